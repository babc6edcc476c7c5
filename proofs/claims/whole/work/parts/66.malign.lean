/-! the reference's align: distances and leaves -/
def mdFr (M N : Mem) : Prop := (∀ f, (f < 25 ∨ 28 < f) → f ≠ 31 → N 72 f = M 72 f) ∧ ∀ z, z ≠ 39 → z ≠ 40 → z ≠ 72 → (z < 90 ∨ 95 < z) → N z = M z
theorem merge_fr {M F : Mem} {p q : Nat} {r : Option Value} (h : mergeP M p q r F) : (∀ f, f ≠ 31 → F 72 f = M 72 f) ∧ ∀ z, z ≠ 40 → z ≠ 72 → (z < 92 ∨ 95 < z) → F z = M z := by
  obtain ⟨R, T, n, m1, m2, m3, m4, m5, m6, m7, m8, m9⟩ := h
  exact ⟨m9, fun z h1 h2 h3 => m8 z h2 h1 h3⟩
theorem mmw_fr {M F : Mem} {i j li lj : Nat} {r : Option Value} (h : mmwP M i j li lj r F) : mdFr M F := by
  obtain ⟨D, d25, d26, d27, d28, d90, d91, d39, d72, dz, hm⟩ := h
  have k := merge_fr hm
  exact ⟨fun f h1 h2 => by rw [k.1 f h2]; exact d72 f h1, fun z h1 h2 h3 h4 => by rw [k.2 z h2 h3 (by omega)]; exact dz z h3 (by omega) (by omega) h1⟩
theorem md_fr {M F : Mem} {i j lo hi li lj a b : Nat} {r : Option Value} (h : mdP M i j lo hi li lj a b r F) : mdFr M F := by
  obtain ⟨d, hr, h⟩ := h
  rcases h with ⟨_, r0, m, hm, _⟩ | ⟨_, hF, _⟩
  · exact mmw_fr hm
  · rw [hF]; exact ⟨fun _ _ _ => rfl, fun _ _ _ _ _ => rfl⟩
theorem sameW_fr {C M N : Mem} {n : Nat} {ln : Nat → Nat} (h73 : N 73 = M 73) (h74 : N 74 = M 74) (h77 : N 77 = M 77) (h6 : N 72 6 = M 72 6) (h7 : N 72 7 = M 72 7) (h8 : N 72 8 = M 72 8) (hW : sameW C M n ln) : sameW C N n ln := by
  unfold sameW mwordOK at *
  rw [h73, h74, h77, h6, h7, h8]
  exact hW
def dsE (dd : Nat → Nat → Nat) (a b : Nat) : Int32 := if a = b then nI 0 else nI (dd a b)
def dsI (dd : Nat → Nat → Nat) (n : Nat) (N : Mem) (v w : Nat) : Prop := ∀ a b, a < n → b < n → (a < v ∨ (a = v ∧ b < w)) → N 87 (5 * a + b) = dsE dd a b ∧ N 86 (9 * a + b) = nI 8 * dsE dd a b
def dsFr (M N : Mem) : Prop := (∀ f, (f < 25 ∨ 28 < f) → f ≠ 31 → N 72 f = M 72 f) ∧ ∀ z, z ≠ 39 → z ≠ 40 → z ≠ 72 → z ≠ 86 → z ≠ 87 → (z < 90 ∨ 95 < z) → N z = M z
theorem dsI_step {dd : Nat → Nat → Nat} {n v w : Nat} {N F : Mem} {x : Int32} (hn5 : n ≤ 5) (hv : v < n) (hw : w < n) (h86 : F 86 = N 86) (h87 : F 87 = N 87) (hx : x = dsE dd v w) (h : dsI dd n N v w) : dsI dd n (stm (stm F 87 (5 * v + w) x) 86 (9 * v + w) (nI 8 * stm F 87 (5 * v + w) x 87 (5 * v + w))) v (w + 1) := by
  intro a b ha hb hab
  by_cases e : a = v ∧ b = w
  · obtain ⟨e1, e2⟩ := e
    subst e1 e2
    rw [stm_ne (by decide), stm_self, stm_self, hx]
    exact ⟨rfl, rfl⟩
  · rw [stm_ne (by decide), stm_off (by omega), stm_off (by omega), stm_ne (by decide), h86, h87]
    exact h a b ha hb (by omega)
theorem dsFr_st {M N : Mem} {a b : Nat} {x y : Int32} (h : dsFr M N) : dsFr M (stm (stm N 87 a x) 86 b y) :=
  ⟨fun f h1 h2 => by rw [stm_ne (by decide), stm_ne (by decide)]; exact h.1 f h1 h2, fun z h1 h2 h3 h4 h5 h6 => by rw [stm_ne h4, stm_ne h5]; exact h.2 z h1 h2 h3 h4 h5 h6⟩
theorem dsFr_md {M N F : Mem} (h : dsFr M N) (k : mdFr N F) : dsFr M F :=
  ⟨fun f h1 h2 => by rw [k.1 f h1 h2]; exact h.1 f h1 h2, fun z h1 h2 h3 h4 h5 h6 => by rw [k.2 z h1 h2 h3 h6]; exact h.2 z h1 h2 h3 h4 h5 h6⟩
theorem ord_ex {dd : Nat → Nat → Nat} {n v w : Nat} (ln : Nat → Nat) (hs : ∀ a b, dd a b = dd b a) (hv : v < n) (hw : w < n) (h : v ≠ w) : ∃ lo hi, ord2 v w lo hi (ln v) (ln w) (ln lo) (ln hi) ∧ lo < hi ∧ hi < n ∧ dd lo hi = dd v w := by
  by_cases c : v < w
  · exact ⟨v, w, Or.inl ⟨c, rfl, rfl, rfl, rfl⟩, c, hw, rfl⟩
  · exact ⟨w, v, Or.inr ⟨by omega, rfl, rfl, rfl, rfl⟩, by omega, hv, hs w v⟩
theorem l_ma4 {A : Mem} {v w : Nat} {Post : Option Value → Mem → Prop} (hv : v < 5) (hw : w < 5) (hp : G mX7_align 21 [some (.ref 72), some (.int (nI v)), some (.int (nI (w + 1))), none] [] (stm A 86 (9 * v + w) (nI 8 * A 87 (5 * v + w))) Post) : G mX7_align 54 [some (.ref 72), some (.int (nI v)), some (.int (nI w)), none] [] A Post := by
  refine blk 7 [(.aload_n 0, 0, 0, 0), (.getfield 53, 7, 20, 0), (.bipush 9, 0, 0, (nI 9)), (.iload_n 1, 0, 0, 0), (.imul, 0, 0, 0), (.iload_n 2, 0, 0, 0), (.iadd, 0, 0, 0), (.bipush 8, 0, 0, (nI 8)), (.aload_n 0, 0, 0, 0), (.getfield 56, 7, 21, 0), (.iconst 5, 0, 0, (nI 5)), (.iload_n 1, 0, 0, 0), (.imul, 0, 0, 0), (.iload_n 2, 0, 0, 0), (.iadd, 0, 0, 0), (.iaload, 0, 0, 0), (.imul, 0, 0, 0), (.iastore, 0, 0, 0), (.iinc 2 1, 0, 0, (nI 1)), (.goto (-60), 21, 0, 0)] [5 * v + w, 9 * v + w] (by decide +kernel) rfl (pc' := 21) (ls' := [some (.ref 72), some (.int (nI v)), some (.int (nI w + nI 1)), none]) (st' := []) (M' := stm A 86 (9 * v + w) ((nI 8) * (A 87 (5 * v + w)))) rfl ⟨trivial, rfl, trivial, trivial, trivial, trivial, trivial, trivial, trivial, rfl, trivial, trivial, trivial, trivial, trivial, ⟨(by simp only [nI_add, pk_mul, nI_s1, Nat.reduceAdd, Nat.reduceMul]), (by show _ < 25; omega)⟩, trivial, ⟨(by simp only [nI_add, pk_mul, nI_s1, Nat.reduceAdd, Nat.reduceMul]), (by show _ < 81; omega), by decide⟩, trivial, trivial, trivial⟩ ?_
  refine G.sub (ls' := [some (.ref 72), some (.int (nI v)), some (.int (nI (w + 1))), none]) ?_ ⟨rfl, rfl, congrArg (fun z => some (Value.int z)) (by simp only [nI_add, nI_s1]), trivial⟩
  exact hp
theorem l_ma2 {C M : Mem} {dd : Nat → Nat → Nat} {n : Nat} {ln : Nat → Nat} {v : Nat} {Post : Option Value → Mem → Prop} (hn : M 72 0 = nI n) (hn5 : n ≤ 5) (hW : sameW C M n ln) (hdd : ddOK C n ln dd) (hv : v < n) (hp : ∀ N, dsI dd n N v n → dsFr M N → G mX7_align 84 [some (.ref 72), some (.int (nI v)), none, none] [] N Post) : ∀ d w N, d = n - w → w ≤ n → dsI dd n N v w → dsFr M N → G mX7_align 21 [some (.ref 72), some (.int (nI v)), some (.int (nI w)), none] [] N Post := by
  intro d
  induction d using Nat.strongRecOn with
  | ind d ih =>
    intro w N hd hw j1 j2
    have hnN : N 72 0 = nI n := by rw [j2.1 0 (by omega) (by omega)]; exact hn
    have hWN : sameW C N n ln := sameW_fr (j2.2 73 (by decide) (by decide) (by decide) (by decide) (by decide) (by decide)) (j2.2 74 (by decide) (by decide) (by decide) (by decide) (by decide) (by decide)) (j2.2 77 (by decide) (by decide) (by decide) (by decide) (by decide) (by decide)) (j2.1 6 (by omega) (by omega)) (j2.1 7 (by omega) (by omega)) (j2.1 8 (by omega) (by omega)) hW
    refine blk 7 [(.iload_n 2, 0, 0, 0), (.aload_n 0, 0, 0, 0), (.getfield 103, 7, 0, 0)] [] (by decide +kernel) rfl (pc' := 26) (ls' := [some (.ref 72), some (.int (nI v)), some (.int (nI w)), none]) (st' := [.int (N 72 0), .int (nI w)]) (M' := N) rfl ⟨trivial, trivial, rfl, trivial⟩ ?_
    refine g_icmp_ge (off := 58) (tgt := 84) (by decide +kernel) (by decide) (fun c1 => ?_) (fun c1 => ?_)
    · have nc1 : n ≤ w := (nI_leI (by omega) (by omega)).mp (by simpa only [hnN, nI_add, pk_mul, nI_s1, n0_lit] using c1)
      have e : w = n := by omega
      subst e
      refine G.sub (ls' := [some (.ref 72), some (.int (nI v)), none, none]) ?_ ⟨rfl, rfl, trivial⟩
      exact hp N j1 j2
    · have nc1 : w < n := by
        have z : ¬ nI n ≤ nI w := by simpa only [hnN, nI_add, pk_mul, nI_s1, n0_lit] using c1
        rw [nI_leI (by omega) (by omega)] at z
        omega
      refine blk 7 [(.aload_n 0, 0, 0, 0), (.getfield 56, 7, 21, 0), (.iconst 5, 0, 0, (nI 5)), (.iload_n 1, 0, 0, 0), (.imul, 0, 0, 0), (.iload_n 2, 0, 0, 0), (.iadd, 0, 0, 0), (.iload_n 1, 0, 0, 0), (.iload_n 2, 0, 0, 0)] [] (by decide +kernel) rfl (pc' := 40) (ls' := [some (.ref 72), some (.int (nI v)), some (.int (nI w)), none]) (st' := [.int (nI w), .int (nI v), .int (((nI 5) * (nI v)) + (nI w)), .ref 87]) (M' := N) rfl ⟨trivial, rfl, trivial, trivial, trivial, trivial, trivial, trivial, trivial, trivial⟩ ?_
      refine g_icmp_ne (off := 7) (tgt := 47) (by decide +kernel) (by decide) (fun c2 => ?_) (fun c2 => ?_)
      · have nc2 : v ≠ w := by
          have z : ¬ nI v = nI w := by simpa only [hnN, nI_add, pk_mul, nI_s1, n0_lit] using c2
          rw [nI_eq (by omega) (by omega)] at z
          omega
        refine blk 7 [(.aload_n 0, 0, 0, 0), (.iload_n 1, 0, 0, 0), (.iload_n 2, 0, 0, 0)] [] (by decide +kernel) rfl (pc' := 50) (ls' := [some (.ref 72), some (.int (nI v)), some (.int (nI w)), none]) (st' := [.int (nI w), .int (nI v), .ref 72, .int (((nI 5) * (nI v)) + (nI w)), .ref 87]) (M' := N) rfl ⟨trivial, trivial, trivial, trivial⟩ ?_
        obtain ⟨lo, hi, ho, hlh, hhn, hdv⟩ := ord_ex ln hdd.1 (show v < n by omega) (show w < n by omega) (by assumption)
        refine g_callV (s_mdist1 N (i := v) (j := w) (lo := lo) (hi := hi) (li := ln v) (lj := ln w) (a := ln lo) (b := ln hi) (by rw [hnN]; exact two_true hn5 (by omega) (by omega) (by assumption)) (by omega) (by omega) ho (hWN.1 v (by omega)).2.1 (hWN.1 w (by omega)).2.1) ok_X7_align_X7_distance (by decide +kernel) rfl (c := 7) rfl (by decide) rfl (Nat.le_of_ble_eq_true rfl) (fun r F hF => ?_) rfl
        have hr := dist_model hn5 (by omega) (by omega) hWN ho (hdd.2.2 lo hi hlh hhn) hF
        have hfr := md_fr hF
        rw [hr, hdv]
        show G _ 53 [some (.ref 72), some (.int (nI v)), some (.int (nI w)), none] [.int (nI (dd v w)), .int (((nI 5) * (nI v)) + (nI w)), .ref 87] F _
        refine blk 7 [(.iastore, 0, 0, 0)] [5 * v + w] (by decide +kernel) rfl (pc' := 54) (ls' := [some (.ref 72), some (.int (nI v)), some (.int (nI w)), none]) (st' := []) (M' := stm F 87 (5 * v + w) (nI (dd v w))) rfl ⟨⟨(by simp only [hnN, nI_add, pk_mul, nI_s1, Nat.reduceAdd, Nat.reduceMul]), (by show _ < 25; omega), by decide⟩, trivial⟩ ?_
        refine G.sub (ls' := [some (.ref 72), some (.int (nI v)), some (.int (nI w)), none]) ?_ ⟨rfl, rfl, rfl, trivial⟩
        exact l_ma4 (by omega) (by omega) (ih (d - 1) (by omega) (w + 1) _ (by omega) (by omega) (dsI_step hn5 (by omega) (by omega) (hfr.2 86 (by decide) (by decide) (by decide) (by decide)) (hfr.2 87 (by decide) (by decide) (by decide) (by decide)) (if_neg (by assumption)).symm j1) (dsFr_st (dsFr_md j2 hfr)))
      · have nc2 : v = w := (nI_eq (by omega) (by omega)).mp (by simpa only [hnN, nI_add, pk_mul, nI_s1, n0_lit] using c2)
        refine blk 7 [(.iconst 0, 0, 0, (nI 0)), (.goto (9), 53, 0, 0), (.iastore, 0, 0, 0)] [5 * v + w] (by decide +kernel) rfl (pc' := 54) (ls' := [some (.ref 72), some (.int (nI v)), some (.int (nI w)), none]) (st' := []) (M' := stm N 87 (5 * v + w) (nI 0)) rfl ⟨trivial, trivial, ⟨(by simp only [hnN, nI_add, pk_mul, nI_s1, Nat.reduceAdd, Nat.reduceMul]), (by show _ < 25; omega), by decide⟩, trivial⟩ ?_
        refine G.sub (ls' := [some (.ref 72), some (.int (nI v)), some (.int (nI w)), none]) ?_ ⟨rfl, rfl, rfl, trivial⟩
        exact l_ma4 (by omega) (by omega) (ih (d - 1) (by omega) (w + 1) _ (by omega) (by omega) (dsI_step hn5 (by omega) (by omega) rfl rfl (if_pos (by assumption)).symm j1) (dsFr_st j2))
theorem l_ma3 {N : Mem} {v : Nat} {Post : Option Value → Mem → Prop} (hp : G mX7_align 11 [some (.ref 72), some (.int (nI (v + 1))), none, none] [] N Post) : G mX7_align 84 [some (.ref 72), some (.int (nI v)), none, none] [] N Post := by
  refine blk 7 [(.iinc 1 1, 0, 0, (nI 1)), (.goto (-76), 11, 0, 0)] [] (by decide +kernel) rfl (pc' := 11) (ls' := [some (.ref 72), some (.int (nI v + nI 1)), none, none]) (st' := []) (M' := N) rfl ⟨trivial, trivial, trivial⟩ ?_
  refine G.sub (ls' := [some (.ref 72), some (.int (nI (v + 1))), none, none]) ?_ ⟨rfl, congrArg (fun z => some (Value.int z)) (by simp only [nI_add, nI_s1]), trivial⟩
  exact hp
theorem l_ma1 {C M : Mem} {dd : Nat → Nat → Nat} {n : Nat} {ln : Nat → Nat} {Post : Option Value → Mem → Prop} (hn : M 72 0 = nI n) (hn5 : n ≤ 5) (hW : sameW C M n ln) (hdd : ddOK C n ln dd) (hp : ∀ N, (∀ a b, a < n → b < n → N 87 (5 * a + b) = dsE dd a b ∧ N 86 (9 * a + b) = nI 8 * dsE dd a b) → dsFr M N → G mX7_align 90 [some (.ref 72), none, none, none] [] N Post) : ∀ d v N, d = n - v → v ≤ n → dsI dd n N v 0 → dsFr M N → G mX7_align 11 [some (.ref 72), some (.int (nI v)), none, none] [] N Post := by
  intro d
  induction d using Nat.strongRecOn with
  | ind d ih =>
    intro v N hd hv j1 j2
    have hnN : N 72 0 = nI n := by rw [j2.1 0 (by omega) (by omega)]; exact hn
    refine blk 7 [(.iload_n 1, 0, 0, 0), (.aload_n 0, 0, 0, 0), (.getfield 103, 7, 0, 0)] [] (by decide +kernel) rfl (pc' := 16) (ls' := [some (.ref 72), some (.int (nI v)), none, none]) (st' := [.int (N 72 0), .int (nI v)]) (M' := N) rfl ⟨trivial, trivial, rfl, trivial⟩ ?_
    refine g_icmp_ge (off := 74) (tgt := 90) (by decide +kernel) (by decide) (fun c1 => ?_) (fun c1 => ?_)
    · have nc1 : n ≤ v := (nI_leI (by omega) (by omega)).mp (by simpa only [hnN, nI_add, pk_mul, nI_s1, n0_lit] using c1)
      have e : v = n := by omega
      subst e
      refine G.sub (ls' := [some (.ref 72), none, none, none]) ?_ ⟨rfl, trivial⟩
      exact hp N (fun a b ha hb => j1 a b ha hb (Or.inl ha)) j2
    · have nc1 : v < n := by
        have z : ¬ nI n ≤ nI v := by simpa only [hnN, nI_add, pk_mul, nI_s1, n0_lit] using c1
        rw [nI_leI (by omega) (by omega)] at z
        omega
      refine blk 7 [(.iconst 0, 0, 0, (nI 0)), (.istore_n 2, 0, 0, 0)] [] (by decide +kernel) rfl (pc' := 21) (ls' := [some (.ref 72), some (.int (nI v)), some (.int (nI 0)), none]) (st' := []) (M' := N) rfl ⟨trivial, trivial, trivial⟩ ?_
      refine G.sub (ls' := [some (.ref 72), some (.int (nI v)), some (.int (nI 0)), none]) ?_ ⟨rfl, rfl, rfl, trivial⟩
      refine l_ma2 (M := M) hn hn5 hW hdd (by omega) (fun N' q1 q2 => l_ma3 (ih (d - 1) (by omega) (v + 1) N' (by omega) (by omega) (fun a b ha hb hab => q1 a b ha hb (by omega)) q2)) _ 0 _ rfl (by omega) (fun a b ha hb hab => j1 a b ha hb (by omega)) j2
theorem l_ml2 {B : Mem} {v l : Nat} {Post : Option Value → Mem → Prop} (hv : v < 5) (hl : B 73 v = nI l) (hl12 : l ≤ 12) (hp : ∀ N, (∀ k, k < l → N 84 (300 * v + 60 * v + k) = B 74 (12 * v + k)) → (∀ x, (∀ k, k < l → x ≠ 300 * v + 60 * v + k) → N 84 x = B 84 x) → (∀ z, z ≠ 84 → N z = B z) → G mX7_align 181 [some (.ref 72), some (.int (nI v)), none, none] [] N Post) : ∀ d k N, d = l - k → k ≤ l → (∀ x, x < k → N 84 (300 * v + 60 * v + x) = B 74 (12 * v + x)) → (∀ x, (∀ y, y < k → x ≠ 300 * v + 60 * v + y) → N 84 x = B 84 x) → (∀ z, z ≠ 84 → N z = B z) → G mX7_align 137 [some (.ref 72), some (.int (nI v)), some (.int (nI k)), none] [] N Post := by
  intro d
  induction d using Nat.strongRecOn with
  | ind d ih =>
    intro k N hd hk j1 j2 j3
    have hlN : N 73 v = nI l := by rw [j3 73 (by decide)]; exact hl
    refine blk 7 [(.iload_n 2, 0, 0, 0), (.aload_n 0, 0, 0, 0), (.getfield 7, 7, 1, 0), (.iload_n 1, 0, 0, 0), (.iaload, 0, 0, 0)] [v] (by decide +kernel) rfl (pc' := 144) (ls' := [some (.ref 72), some (.int (nI v)), some (.int (nI k)), none]) (st' := [.int (N 73 v), .int (nI k)]) (M' := N) rfl ⟨trivial, trivial, rfl, trivial, ⟨rfl, (by show _ < 5; omega)⟩, trivial⟩ ?_
    refine g_icmp_ge (off := 37) (tgt := 181) (by decide +kernel) (by decide) (fun c1 => ?_) (fun c1 => ?_)
    · have nc1 : l ≤ k := (nI_leI (by omega) (by omega)).mp (by simpa only [hlN, nI_add, pk_mul, nI_s1, n0_lit] using c1)
      have e : k = l := by omega
      subst e
      refine G.sub (ls' := [some (.ref 72), some (.int (nI v)), none, none]) ?_ ⟨rfl, rfl, trivial⟩
      exact hp N j1 j2 j3
    · have nc1 : k < l := by
        have z : ¬ nI l ≤ nI k := by simpa only [hlN, nI_add, pk_mul, nI_s1, n0_lit] using c1
        rw [nI_leI (by omega) (by omega)] at z
        omega
      refine blk 7 [(.aload_n 0, 0, 0, 0), (.getfield 47, 7, 18, 0), (.sipush 300, 0, 0, (nI 300)), (.iload_n 1, 0, 0, 0), (.imul, 0, 0, 0), (.bipush 60, 0, 0, (nI 60)), (.iload_n 1, 0, 0, 0), (.imul, 0, 0, 0), (.iadd, 0, 0, 0), (.iload_n 2, 0, 0, 0), (.iadd, 0, 0, 0), (.aload_n 0, 0, 0, 0), (.getfield 13, 7, 2, 0), (.bipush 12, 0, 0, (nI 12)), (.iload_n 1, 0, 0, 0), (.imul, 0, 0, 0), (.iload_n 2, 0, 0, 0), (.iadd, 0, 0, 0), (.iaload, 0, 0, 0), (.iastore, 0, 0, 0), (.iinc 2 1, 0, 0, (nI 1)), (.goto (-41), 137, 0, 0)] [12 * v + k, 300 * v + (60 * v) + k] (by decide +kernel) rfl (pc' := 137) (ls' := [some (.ref 72), some (.int (nI v)), some (.int (nI k + nI 1)), none]) (st' := []) (M' := stm N 84 (300 * v + (60 * v) + k) (N 74 (12 * v + k))) rfl ⟨trivial, rfl, trivial, trivial, trivial, trivial, trivial, trivial, trivial, trivial, trivial, trivial, rfl, trivial, trivial, trivial, trivial, trivial, ⟨(by simp only [hlN, nI_add, pk_mul, nI_s1, Nat.reduceAdd, Nat.reduceMul]), (by show _ < 60; omega)⟩, ⟨(by simp only [hlN, nI_add, pk_mul, nI_s1, Nat.reduceAdd, Nat.reduceMul]), (by show _ < 2700; omega), by decide⟩, trivial, trivial, trivial⟩ ?_
      refine G.sub (ls' := [some (.ref 72), some (.int (nI v)), some (.int (nI (k + 1))), none]) ?_ ⟨rfl, rfl, congrArg (fun z => some (Value.int z)) (by simp only [nI_add, nI_s1]), trivial⟩
      refine ih (d - 1) (by omega) (k + 1) _ (by omega) (by omega) (fun x hx => ?_) (fun x hx => ?_) (fun z hz => by rw [stm_ne hz]; exact j3 z hz)
      · by_cases e : x = k
        · subst e; rw [stm_self, j3 74 (by decide)]
        · rw [stm_off (by omega)]; exact j1 x (by omega)
      · rw [stm_off (hx k (by omega))]; exact j2 x (fun y hy => hx y (by omega))
theorem l_ml3 {N : Mem} {v : Nat} {Post : Option Value → Mem → Prop} (hp : G mX7_align 92 [some (.ref 72), some (.int (nI (v + 1))), none, none] [] N Post) : G mX7_align 181 [some (.ref 72), some (.int (nI v)), none, none] [] N Post := by
  refine blk 7 [(.iinc 1 1, 0, 0, (nI 1)), (.goto (-92), 92, 0, 0)] [] (by decide +kernel) rfl (pc' := 92) (ls' := [some (.ref 72), some (.int (nI v + nI 1)), none, none]) (st' := []) (M' := N) rfl ⟨trivial, trivial, trivial⟩ ?_
  refine G.sub (ls' := [some (.ref 72), some (.int (nI (v + 1))), none, none]) ?_ ⟨rfl, congrArg (fun z => some (Value.int z)) (by simp only [nI_add, nI_s1]), trivial⟩
  exact hp
/-- the leaves below v are set up -/
def lfI (M N : Mem) (ln : Nat → Nat) (v : Nat) : Prop := ∀ a, a < v → N 80 a = -1 ∧ N 82 a = nI (2 ^ a) ∧ N 85 a = nI 0 ∧ N 83 a = nI (ln a) ∧ ∀ k, k < ln a → N 84 (300 * a + 60 * a + k) = M 74 (12 * a + k)
def lfFr (M N : Mem) : Prop := ∀ z, z ≠ 80 → z ≠ 82 → z ≠ 83 → z ≠ 84 → z ≠ 85 → N z = M z
theorem l_ml1 {M : Mem} {n : Nat} {ln : Nat → Nat} {Post : Option Value → Mem → Prop} (hn : M 72 0 = nI n) (hn5 : n ≤ 5) (hwo : ∀ i, i < n → mwordOK M i (ln i)) (hp : ∀ N, lfI M N ln n → lfFr M N → G mX7_align 187 [some (.ref 72), none, none, none] [] N Post) : ∀ d v N, d = n - v → v ≤ n → lfI M N ln v → lfFr M N → G mX7_align 92 [some (.ref 72), some (.int (nI v)), none, none] [] N Post := by
  intro d
  induction d using Nat.strongRecOn with
  | ind d ih =>
    intro v N hd hv j1 j2
    have hnN : N 72 0 = nI n := by rw [j2 72 (by decide) (by decide) (by decide) (by decide) (by decide)]; exact hn
    have hlN : v < n → N 73 v = nI (ln v) := fun hx => by rw [j2 73 (by decide) (by decide) (by decide) (by decide) (by decide)]; exact (hwo v hx).1
    refine blk 7 [(.iload_n 1, 0, 0, 0), (.aload_n 0, 0, 0, 0), (.getfield 103, 7, 0, 0)] [] (by decide +kernel) rfl (pc' := 97) (ls' := [some (.ref 72), some (.int (nI v)), none, none]) (st' := [.int (N 72 0), .int (nI v)]) (M' := N) rfl ⟨trivial, trivial, rfl, trivial⟩ ?_
    refine g_icmp_ge (off := 90) (tgt := 187) (by decide +kernel) (by decide) (fun c1 => ?_) (fun c1 => ?_)
    · have nc1 : n ≤ v := (nI_leI (by omega) (by omega)).mp (by simpa only [hnN, nI_add, pk_mul, nI_s1, n0_lit] using c1)
      have e : v = n := by omega
      subst e
      refine G.sub (ls' := [some (.ref 72), none, none, none]) ?_ ⟨rfl, trivial⟩
      exact hp N j1 j2
    · have nc1 : v < n := by
        have z : ¬ nI n ≤ nI v := by simpa only [hnN, nI_add, pk_mul, nI_s1, n0_lit] using c1
        rw [nI_leI (by omega) (by omega)] at z
        omega
      refine blk 7 [(.aload_n 0, 0, 0, 0), (.getfield 35, 7, 14, 0), (.iload_n 1, 0, 0, 0), (.iconst (-1), 0, 0, (-1)), (.iastore, 0, 0, 0), (.aload_n 0, 0, 0, 0), (.getfield 41, 7, 16, 0), (.iload_n 1, 0, 0, 0), (.iconst 1, 0, 0, (nI 1)), (.iload_n 1, 0, 0, 0), (.ishl, 0, 0, 0), (.iastore, 0, 0, 0), (.aload_n 0, 0, 0, 0), (.getfield 50, 7, 19, 0), (.iload_n 1, 0, 0, 0), (.iconst 0, 0, 0, (nI 0)), (.iastore, 0, 0, 0), (.aload_n 0, 0, 0, 0), (.getfield 44, 7, 17, 0), (.iload_n 1, 0, 0, 0), (.aload_n 0, 0, 0, 0), (.getfield 7, 7, 1, 0), (.iload_n 1, 0, 0, 0), (.iaload, 0, 0, 0), (.iastore, 0, 0, 0), (.iconst 0, 0, 0, (nI 0)), (.istore_n 2, 0, 0, 0)] [v, v, v, v, v] (by decide +kernel) rfl (pc' := 137) (ls' := [some (.ref 72), some (.int (nI v)), some (.int (nI 0)), none]) (st' := []) (M' := stm (stm (stm (stm N 80 v (-1)) 82 v ((nI 1) <<< ((nI v) &&& 31))) 85 v (nI 0)) 83 v (N 73 v)) rfl ⟨trivial, rfl, trivial, trivial, ⟨rfl, (by show _ < 9; omega), by decide⟩, trivial, rfl, trivial, trivial, trivial, trivial, ⟨rfl, (by show _ < 9; omega), by decide⟩, trivial, rfl, trivial, trivial, ⟨rfl, (by show _ < 9; omega), by decide⟩, trivial, rfl, trivial, trivial, rfl, trivial, ⟨rfl, (by show _ < 5; omega)⟩, ⟨rfl, (by show _ < 9; omega), by decide⟩, trivial, trivial, trivial⟩ ?_
      refine G.sub (ls' := [some (.ref 72), some (.int (nI v)), some (.int (nI 0)), none]) ?_ ⟨rfl, rfl, rfl, trivial⟩
      refine l_ml2 (B := stm (stm (stm (stm N 80 v (-1)) 82 v ((nI 1) <<< ((nI v) &&& 31))) 85 v (nI 0)) 83 v (N 73 v)) (l := ln v) (by omega) (by rw [stm_ne (by decide), stm_ne (by decide), stm_ne (by decide), stm_ne (by decide)]; exact hlN (by omega)) (hwo v (by omega)).2.2.1 (fun N' q1 q2 q3 => l_ml3 (ih (d - 1) (by omega) (v + 1) N' (by omega) (by omega) (fun a ha => ?_) (fun z h1 h2 h3 h4 h5 => by rw [q3 z h4, stm_ne h3, stm_ne h5, stm_ne h2, stm_ne h1]; exact j2 z h1 h2 h3 h4 h5))) _ 0 _ rfl (by omega) (fun x h => absurd h (by omega)) (fun _ _ => rfl) (fun _ _ => rfl)
      by_cases e : a = v
      · subst e
        refine ⟨?_, ?_, ?_, ?_, fun k hk => ?_⟩
        · rw [q3 80 (by decide), stm_ne (by decide), stm_ne (by decide), stm_ne (by decide), stm_self]
        · rw [q3 82 (by decide), stm_ne (by decide), stm_ne (by decide), stm_self]; exact bit_nI (by omega)
        · rw [q3 85 (by decide), stm_ne (by decide), stm_self]
        · rw [q3 83 (by decide), stm_self]; exact hlN (by omega)
        · rw [q1 k hk, stm_ne (by decide), stm_ne (by decide), stm_ne (by decide), stm_ne (by decide), j2 74 (by decide) (by decide) (by decide) (by decide) (by decide)]
      · have g := j1 a (by omega)
        have l1 := (hwo v (by omega)).2.2.1
        have l2 := (hwo a (by omega)).2.2.1
        refine ⟨?_, ?_, ?_, ?_, fun k hk => ?_⟩
        · rw [q3 80 (by decide), stm_ne (by decide), stm_ne (by decide), stm_ne (by decide), stm_off e]; exact g.1
        · rw [q3 82 (by decide), stm_ne (by decide), stm_ne (by decide), stm_off e, stm_ne (by decide)]; exact g.2.1
        · rw [q3 85 (by decide), stm_ne (by decide), stm_off e, stm_ne (by decide), stm_ne (by decide)]; exact g.2.2.1
        · rw [q3 83 (by decide), stm_off e, stm_ne (by decide), stm_ne (by decide), stm_ne (by decide)]; exact g.2.2.2.1
        · rw [q2 _ (fun y hy => by omega), stm_ne (by decide), stm_ne (by decide), stm_ne (by decide), stm_ne (by decide)]; exact g.2.2.2.2 k hk
