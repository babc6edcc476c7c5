/-! the reference: end, pairTotal, totalOf, total, hasLetter -/
def mendP (M : Mem) (n w : Nat) : Option Value → Mem → Prop := fun r N => r = some (.int (nI n)) ∧ N 73 n = nI w ∧ (∀ a, a ≠ n → N 73 a = M 73 a) ∧ (∀ k, k < w → N 74 (12 * n + k) = M 75 k) ∧ (∀ a, a < 12 * n → N 74 a = M 74 a) ∧ N 72 3 = nI 0 ∧ N 72 0 = nI (n + 1) ∧ N 72 11 = nI 0 ∧ N 72 23 = nI 0 ∧ (∀ f, f ≠ 0 → f ≠ 3 → f ≠ 11 → f ≠ 23 → N 72 f = M 72 f) ∧ ∀ z, z ≠ 72 → z ≠ 73 → z ≠ 74 → N z = M z
theorem l_mend {M : Mem} {n w : Nat} (hw : M 72 3 = nI w) (hn : M 72 0 = nI n) (hw12 : w ≤ 12) (hn5 : n < 5) : ∀ d k N, d = w - k → k ≤ w → (∀ a, a < k → N 74 (12 * n + a) = M 75 a) → (∀ a, a < 12 * n → N 74 a = M 74 a) → (∀ z, z ≠ 74 → N z = M z) → G mX7_end 19 [some (.ref 72), some (.int (nI k))] [] N (mendP M n w) := by
  intro d
  induction d using Nat.strongRecOn with
  | ind d ih =>
    intro k N hd hk j1 j2 j3
    have hwN : N 72 3 = nI w := by rw [j3 72 (by decide)]; exact hw
    have hnN : N 72 0 = nI n := by rw [j3 72 (by decide)]; exact hn
    refine blk 7 [(.iload_n 1, 0, 0, 0), (.aload_n 0, 0, 0, 0), (.getfield 100, 7, 3, 0)] [] (by decide +kernel) rfl (pc' := 24) (ls' := [some (.ref 72), some (.int (nI k))]) (st' := [.int (N 72 3), .int (nI k)]) (M' := N) rfl ⟨trivial, trivial, rfl, trivial⟩ ?_
    refine g_icmp_ge (off := 29) (tgt := 53) (by decide +kernel) (by decide) (fun c1 => ?_) (fun c1 => ?_)
    · have nc1 : w ≤ k := (nI_leI (by omega) (by omega)).mp (by simpa only [hwN, hnN, hw, hn, nI_add, pk_mul, nI_s1, n0_lit] using c1)
      refine blk 7 [(.aload_n 0, 0, 0, 0), (.getfield 7, 7, 1, 0), (.aload_n 0, 0, 0, 0), (.getfield 103, 7, 0, 0), (.aload_n 0, 0, 0, 0), (.getfield 100, 7, 3, 0), (.iastore, 0, 0, 0), (.aload_n 0, 0, 0, 0), (.iconst 0, 0, 0, (nI 0)), (.putfield 100, 7, 3, 0), (.aload_n 0, 0, 0, 0), (.dup, 0, 0, 0), (.getfield 103, 7, 0, 0), (.iconst 1, 0, 0, (nI 1)), (.iadd, 0, 0, 0), (.putfield 103, 7, 0, 0), (.aload_n 0, 0, 0, 0)] [n] (by decide +kernel) rfl (pc' := 82) (ls' := [some (.ref 72), some (.int (nI k))]) (st' := [.ref 72]) (M' := stm (stm (stm N 73 n (N 72 3)) 72 3 (nI 0)) 72 0 ((N 72 0) + (nI 1))) rfl ⟨trivial, rfl, trivial, rfl, trivial, rfl, ⟨(by simp only [hwN, hnN, hw, hn, nI_add, pk_mul, nI_s1, Nat.reduceAdd, Nat.reduceMul]), (by show _ < 5; omega), by decide⟩, trivial, trivial, rfl, trivial, rfl, rfl, trivial, trivial, rfl, trivial, trivial⟩ ?_
      refine g_callV (s_forget _) ok_X7_end_X7_forget (by decide +kernel) rfl (c := 7) rfl (by decide) rfl (Nat.le_of_ble_eq_true rfl) (fun r A h => ?_) rfl
      obtain ⟨hr, hA⟩ := h
      rw [hr]
      have eA : ∀ f, f ≠ 11 → f ≠ 23 → A 72 f = (stm (stm (stm N 73 n (N 72 3)) 72 3 (nI 0)) 72 0 ((N 72 0) + (nI 1))) 72 f := fun f h1 h2 => by rw [hA]; unfold fgt; rw [stm_off h2, stm_off h1]
      have eZ : ∀ z, z ≠ 72 → A z = (stm (stm (stm N 73 n (N 72 3)) 72 3 (nI 0)) 72 0 ((N 72 0) + (nI 1))) z := fun z h1 => by rw [hA]; unfold fgt; rw [stm_ne h1, stm_ne h1]
      have e0 : A 72 0 = nI (n + 1) := by rw [eA 0 (by decide) (by decide), stm_self, hnN, nI_add]
      show G _ 85 [some (.ref 72), some (.int (nI k))] [] A _
      refine blk 7 [(.aload_n 0, 0, 0, 0), (.getfield 103, 7, 0, 0), (.iconst 1, 0, 0, (nI 1)), (.isub, 0, 0, 0)] [] (by decide +kernel) rfl (pc' := 91) (ls' := [some (.ref 72), some (.int (nI k))]) (st' := [.int ((A 72 0) - (nI 1))]) (M' := A) rfl ⟨trivial, rfl, trivial, trivial, trivial⟩ ?_
      refine g_ireturn (by decide +kernel) rfl rfl ⟨congrArg some (congrArg Value.int ?_), ?_, fun a ha => ?_, fun a ha => ?_, fun a ha => ?_, ?_, e0, ?_, ?_, fun f h1 h2 h3 h4 => ?_, fun z h1 h2 h3 => ?_⟩
      · rw [e0, nI_s1]
      · rw [eZ 73 (by decide), stm_ne (by decide), stm_ne (by decide), stm_self, hwN]
      · rw [eZ 73 (by decide), stm_ne (by decide), stm_ne (by decide), stm_off ha, j3 73 (by decide)]
      · rw [eZ 74 (by decide), stm_ne (by decide), stm_ne (by decide), stm_ne (by decide)]; exact j1 a (by omega)
      · rw [eZ 74 (by decide), stm_ne (by decide), stm_ne (by decide), stm_ne (by decide)]; exact j2 a (by omega)
      · rw [eA 3 (by decide) (by decide), stm_off (by decide), stm_self]
      · rw [hA]; unfold fgt; rw [stm_off (by decide), stm_self]
      · rw [hA]; unfold fgt; rw [stm_self]
      · rw [eA f h3 h4, stm_off h1, stm_off h2, stm_ne (by decide), j3 72 (by decide)]
      · rw [eZ z h1, stm_ne h1, stm_ne h1, stm_ne h2]; exact j3 z h3
    · have nc1 : k < w := by
        have z : ¬ nI w ≤ nI k := by simpa only [hwN, hnN, hw, hn, nI_add, pk_mul, nI_s1, n0_lit] using c1
        rw [nI_leI (by omega) (by omega)] at z
        omega
      refine blk 7 [(.aload_n 0, 0, 0, 0), (.getfield 13, 7, 2, 0), (.bipush 12, 0, 0, (nI 12)), (.aload_n 0, 0, 0, 0), (.getfield 103, 7, 0, 0), (.imul, 0, 0, 0), (.iload_n 1, 0, 0, 0), (.iadd, 0, 0, 0), (.aload_n 0, 0, 0, 0), (.getfield 16, 7, 4, 0), (.iload_n 1, 0, 0, 0), (.iaload, 0, 0, 0), (.iastore, 0, 0, 0), (.iinc 1 1, 0, 0, (nI 1)), (.goto (-31), 19, 0, 0)] [k, 12 * n + k] (by decide +kernel) rfl (pc' := 19) (ls' := [some (.ref 72), some (.int (nI k + nI 1))]) (st' := []) (M' := stm N 74 (12 * n + k) (N 75 k)) rfl ⟨trivial, rfl, trivial, trivial, rfl, trivial, trivial, trivial, trivial, rfl, trivial, ⟨rfl, (by show _ < 12; omega)⟩, ⟨(by simp only [hwN, hnN, hw, hn, nI_add, pk_mul, nI_s1, Nat.reduceAdd, Nat.reduceMul]), (by show _ < 60; omega), by decide⟩, trivial, trivial, trivial⟩ ?_
      refine G.sub (ls' := [some (.ref 72), some (.int (nI (k + 1)))]) ?_ ⟨rfl, congrArg (fun z => some (Value.int z)) (by simp only [nI_add, nI_s1]), trivial⟩
      refine ih (d - 1) (by omega) (k + 1) _ (by omega) (by omega) (fun a ha => ?_) (fun a ha => ?_) (fun z hz => by rw [stm_ne hz]; exact j3 z hz)
      · by_cases e : a = k
        · subst e; rw [stm_self, j3 75 (by decide)]
        · rw [stm_off (by omega)]; exact j1 a (by omega)
      · rw [stm_off (by omega)]; exact j2 a (by omega)
theorem s_mend1 (M : Mem) {n w : Nat} (hw : M 72 3 = nI w) (hn : M 72 0 = nI n) (h0 : 0 < w) (hw12 : w ≤ 12) (hn5 : n < 5) : Spec mX7_end [.ref 72] M (mendP M n w) := by
  refine Spec.of (by decide) (by simp [Value.category]) (Nat.le_of_ble_eq_true rfl) ?_
  refine blk 7 [(.aload_n 0, 0, 0, 0), (.getfield 100, 7, 3, 0)] [] (by decide +kernel) rfl (pc' := 4) (ls' := [some (.ref 72), none]) (st' := [.int (M 72 3)]) (M' := M) rfl ⟨trivial, rfl, trivial⟩ ?_
  refine g_if_eq (off := 11) (tgt := 15) (by decide +kernel) (by decide) (fun c1 => ?_) (fun c1 => ?_)
  · have nc1 : w = 0 := (nI_eq (by omega) (by omega)).mp (by simpa only [hw, hn, nI_add, pk_mul, nI_s1, n0_lit] using c1)
    refine blk 7 [(.iconst (-1), 0, 0, (-1))] [] (by decide +kernel) rfl (pc' := 16) (ls' := [some (.ref 72), none]) (st' := [.int (-1)]) (M' := M) rfl ⟨trivial, trivial⟩ ?_
    exfalso
    omega
  · have nc1 : w ≠ 0 := by
      have z : ¬ nI w = nI 0 := by simpa only [hw, hn, nI_add, pk_mul, nI_s1, n0_lit] using c1
      rw [nI_eq (by omega) (by omega)] at z
      omega
    refine blk 7 [(.aload_n 0, 0, 0, 0), (.getfield 103, 7, 0, 0), (.iconst 5, 0, 0, (nI 5))] [] (by decide +kernel) rfl (pc' := 12) (ls' := [some (.ref 72), none]) (st' := [.int (nI 5), .int (M 72 0)]) (M' := M) rfl ⟨trivial, rfl, trivial, trivial⟩ ?_
    refine g_icmp_ne (off := 5) (tgt := 17) (by decide +kernel) (by decide) (fun c2 => ?_) (fun c2 => ?_)
    · have nc2 : n ≠ 5 := by
        have z : ¬ nI n = nI 5 := by simpa only [hw, hn, nI_add, pk_mul, nI_s1, n0_lit] using c2
        rw [nI_eq (by omega) (by omega)] at z
        omega
      refine blk 7 [(.iconst 0, 0, 0, (nI 0)), (.istore_n 1, 0, 0, 0)] [] (by decide +kernel) rfl (pc' := 19) (ls' := [some (.ref 72), some (.int (nI 0))]) (st' := []) (M' := M) rfl ⟨trivial, trivial, trivial⟩ ?_
      exact l_mend hw hn hw12 hn5 _ 0 M rfl (by omega) (fun a h => absurd h (by omega)) (fun _ _ => rfl) (fun _ _ => rfl)
    · have nc2 : n = 5 := (nI_eq (by omega) (by omega)).mp (by simpa only [hw, hn, nI_add, pk_mul, nI_s1, n0_lit] using c2)
      refine blk 7 [(.iconst (-1), 0, 0, (-1))] [] (by decide +kernel) rfl (pc' := 16) (ls' := [some (.ref 72), none]) (st' := [.int (-1)]) (M' := M) rfl ⟨trivial, trivial⟩ ?_
      exfalso
      omega
theorem s_mend0 (M : Mem) {n w : Nat} (hw : M 72 3 = nI w) (hn : M 72 0 = nI n) (hw12 : w ≤ 12) (hn5 : n ≤ 5) (hno : w = 0 ∨ n = 5) : Spec mX7_end [.ref 72] M (Ret (-1) M) := by
  refine Spec.of (by decide) (by simp [Value.category]) (Nat.le_of_ble_eq_true rfl) ?_
  refine blk 7 [(.aload_n 0, 0, 0, 0), (.getfield 100, 7, 3, 0)] [] (by decide +kernel) rfl (pc' := 4) (ls' := [some (.ref 72), none]) (st' := [.int (M 72 3)]) (M' := M) rfl ⟨trivial, rfl, trivial⟩ ?_
  refine g_if_eq (off := 11) (tgt := 15) (by decide +kernel) (by decide) (fun c1 => ?_) (fun c1 => ?_)
  · have nc1 : w = 0 := (nI_eq (by omega) (by omega)).mp (by simpa only [hw, hn, nI_add, pk_mul, nI_s1, n0_lit] using c1)
    refine blk 7 [(.iconst (-1), 0, 0, (-1))] [] (by decide +kernel) rfl (pc' := 16) (ls' := [some (.ref 72), none]) (st' := [.int (-1)]) (M' := M) rfl ⟨trivial, trivial⟩ ?_
    exact g_ireturn (by decide +kernel) rfl rfl ⟨rfl, rfl⟩
  · have nc1 : w ≠ 0 := by
      have z : ¬ nI w = nI 0 := by simpa only [hw, hn, nI_add, pk_mul, nI_s1, n0_lit] using c1
      rw [nI_eq (by omega) (by omega)] at z
      omega
    refine blk 7 [(.aload_n 0, 0, 0, 0), (.getfield 103, 7, 0, 0), (.iconst 5, 0, 0, (nI 5))] [] (by decide +kernel) rfl (pc' := 12) (ls' := [some (.ref 72), none]) (st' := [.int (nI 5), .int (M 72 0)]) (M' := M) rfl ⟨trivial, rfl, trivial, trivial⟩ ?_
    refine g_icmp_ne (off := 5) (tgt := 17) (by decide +kernel) (by decide) (fun c2 => ?_) (fun c2 => ?_)
    · have nc2 : n ≠ 5 := by
        have z : ¬ nI n = nI 5 := by simpa only [hw, hn, nI_add, pk_mul, nI_s1, n0_lit] using c2
        rw [nI_eq (by omega) (by omega)] at z
        omega
      exfalso
      omega
    · have nc2 : n = 5 := (nI_eq (by omega) (by omega)).mp (by simpa only [hw, hn, nI_add, pk_mul, nI_s1, n0_lit] using c2)
      refine blk 7 [(.iconst (-1), 0, 0, (-1))] [] (by decide +kernel) rfl (pc' := 16) (ls' := [some (.ref 72), none]) (st' := [.int (-1)]) (M' := M) rfl ⟨trivial, trivial⟩ ?_
      exact g_ireturn (by decide +kernel) rfl rfl ⟨rfl, rfl⟩
def swp (q : Int32) : Int32 := if q = nI 2 then nI 1 else if q = nI 1 then nI 2 else nI 0
theorem swp1 {q : Int32} : nI 1 = swp q ↔ nI 2 = q := by
  unfold swp
  by_cases a : q = nI 2
  · rw [if_pos a, a]; exact ⟨fun _ => rfl, fun _ => rfl⟩
  · rw [if_neg a]
    by_cases b : q = nI 1
    · rw [if_pos b, b]; exact ⟨fun z => absurd z (by decide +kernel), fun z => absurd z (by decide +kernel)⟩
    · rw [if_neg b]; exact ⟨fun z => absurd z (by decide +kernel), fun z => absurd z.symm a⟩
theorem swp2 {q : Int32} : nI 2 = swp q ↔ nI 1 = q := by
  unfold swp
  by_cases a : q = nI 2
  · rw [if_pos a, a]; exact ⟨fun z => absurd z (by decide +kernel), fun z => absurd z (by decide +kernel)⟩
  · rw [if_neg a]
    by_cases b : q = nI 1
    · rw [if_pos b, b]; exact ⟨fun _ => rfl, fun _ => rfl⟩
    · rw [if_neg b]; exact ⟨fun z => absurd z (by decide +kernel), fun z => absurd z.symm b⟩
theorem sw0 : nI 0 = swp (nI 0) := by decide +kernel
theorem sw1 : nI 2 = swp (nI 1) := by decide +kernel
theorem sw2 : nI 1 = swp (nI 2) := by decide +kernel
theorem add_negs (a e p : Int32) : a + (-e - p) = a - (e + p) := by rw [Int32.sub_eq_add_neg, Int32.sub_eq_add_neg, Int32.neg_add, Int32.sub_eq_add_neg]
def rwM (M : Mem) (t v : Nat) : Nat → Int32 := fun k => M t (60 * v + k)
theorem ixm {x y : Int32} {a b : Nat} (h1 : x = nI a) (h2 : y = nI b) : nI 4 * x + y = nI (a * 4 + b) := by rw [h1, h2, pk_mul, nI_add, Nat.mul_comm]
theorem l_pt89 {M : Mem} {v w W : Nat} (hv : v < 5) (hw : w < 5) (hW : W ≤ 60) (hx : ∀ k, k < W → okc (M 89 (60 * v + k))) (hy : ∀ k, k < W → okc (M 89 (60 * w + k))) : ∀ d k, d = W - k → k ≤ W → G mX7_pairTotal 9 [some (.ref 72), some (.int (nI 0)), some (.int (nI v)), some (.int (nI w)), some (.int (nI W)), some (.int ((sbF (M 77) (M 72 6) (M 72 7) (rwM M 89 v) (rwM M 89 w) k).1)), some (.int (swp (sbF (M 77) (M 72 6) (M 72 7) (rwM M 89 v) (rwM M 89 w) k).2)), some (.int (nI k)), none, none, none] [] M (Ret (sbF (M 77) (M 72 6) (M 72 7) (rwM M 89 v) (rwM M 89 w) W).1 M) := by
  intro d
  induction d using Nat.strongRecOn with
  | ind d ih =>
    intro k hd hk
    refine blk 7 [(.iload 7, 0, 0, 0), (.iload 4, 0, 0, 0)] [] (by decide +kernel) rfl (pc' := 13) (ls' := [some (.ref 72), some (.int (nI 0)), some (.int (nI v)), some (.int (nI w)), some (.int (nI W)), some (.int ((sbF (M 77) (M 72 6) (M 72 7) (rwM M 89 v) (rwM M 89 w) k).1)), some (.int (swp (sbF (M 77) (M 72 6) (M 72 7) (rwM M 89 v) (rwM M 89 w) k).2)), some (.int (nI k)), none, none, none]) (st' := [.int (nI W), .int (nI k)]) (M' := M) rfl ⟨trivial, trivial, trivial⟩ ?_
    refine g_icmp_ge (off := 163) (tgt := 176) (by decide +kernel) (by decide) (fun c1 => ?_) (fun c1 => ?_)
    · have nc1 : W ≤ k := (nI_leI (by omega) (by omega)).mp (by simpa only [nI_add, pk_mul, nI_s1, n0_lit] using c1)
      refine blk 7 [(.iload 5, 0, 0, 0)] [] (by decide +kernel) rfl (pc' := 178) (ls' := [some (.ref 72), some (.int (nI 0)), some (.int (nI v)), some (.int (nI w)), some (.int (nI W)), some (.int ((sbF (M 77) (M 72 6) (M 72 7) (rwM M 89 v) (rwM M 89 w) k).1)), some (.int (swp (sbF (M 77) (M 72 6) (M 72 7) (rwM M 89 v) (rwM M 89 w) k).2)), some (.int (nI k)), none, none, none]) (st' := [.int ((sbF (M 77) (M 72 6) (M 72 7) (rwM M 89 v) (rwM M 89 w) k).1)]) (M' := M) rfl ⟨trivial, trivial⟩ ?_
      have e : k = W := by omega
      subst e
      exact g_ireturn (by decide +kernel) rfl rfl ⟨rfl, rfl⟩
    · have nc1 : k < W := by
        have z : ¬ nI W ≤ nI k := by simpa only [nI_add, pk_mul, nI_s1, n0_lit] using c1
        rw [nI_leI (by omega) (by omega)] at z
        omega
      refine blk 7 [(.iload_n 1, 0, 0, 0)] [] (by decide +kernel) rfl (pc' := 17) (ls' := [some (.ref 72), some (.int (nI 0)), some (.int (nI v)), some (.int (nI w)), some (.int (nI W)), some (.int ((sbF (M 77) (M 72 6) (M 72 7) (rwM M 89 v) (rwM M 89 w) k).1)), some (.int (swp (sbF (M 77) (M 72 6) (M 72 7) (rwM M 89 v) (rwM M 89 w) k).2)), some (.int (nI k)), none, none, none]) (st' := [.int (nI 0)]) (M' := M) rfl ⟨trivial, trivial⟩ ?_
      refine g_if_eq (off := 18) (tgt := 35) (by decide +kernel) (by decide) (fun c2 => ?_) (fun c2 => ?_)
      · refine blk 7 [(.aload_n 0, 0, 0, 0), (.getfield 62, 7, 24, 0), (.bipush 60, 0, 0, (nI 60)), (.iload_n 2, 0, 0, 0), (.imul, 0, 0, 0), (.iload 7, 0, 0, 0), (.iadd, 0, 0, 0), (.iaload, 0, 0, 0), (.istore 8, 0, 0, 0), (.iload_n 1, 0, 0, 0)] [60 * v + k] (by decide +kernel) rfl (pc' := 50) (ls' := [some (.ref 72), some (.int (nI 0)), some (.int (nI v)), some (.int (nI w)), some (.int (nI W)), some (.int ((sbF (M 77) (M 72 6) (M 72 7) (rwM M 89 v) (rwM M 89 w) k).1)), some (.int (swp (sbF (M 77) (M 72 6) (M 72 7) (rwM M 89 v) (rwM M 89 w) k).2)), some (.int (nI k)), some (.int (M 89 (60 * v + k))), none, none]) (st' := [.int (nI 0)]) (M' := M) rfl ⟨trivial, rfl, trivial, trivial, trivial, trivial, trivial, ⟨(by simp only [nI_add, pk_mul, nI_s1, Nat.reduceAdd, Nat.reduceMul]), (by show _ < 300; omega)⟩, trivial, trivial, trivial⟩ ?_
        refine g_if_eq (off := 18) (tgt := 68) (by decide +kernel) (by decide) (fun c3 => ?_) (fun c3 => ?_)
        · refine blk 7 [(.aload_n 0, 0, 0, 0), (.getfield 62, 7, 24, 0), (.bipush 60, 0, 0, (nI 60)), (.iload_n 3, 0, 0, 0), (.imul, 0, 0, 0), (.iload 7, 0, 0, 0), (.iadd, 0, 0, 0), (.iaload, 0, 0, 0), (.istore 9, 0, 0, 0), (.iload 8, 0, 0, 0), (.iconst (-1), 0, 0, (-1))] [60 * w + k] (by decide +kernel) rfl (pc' := 85) (ls' := [some (.ref 72), some (.int (nI 0)), some (.int (nI v)), some (.int (nI w)), some (.int (nI W)), some (.int ((sbF (M 77) (M 72 6) (M 72 7) (rwM M 89 v) (rwM M 89 w) k).1)), some (.int (swp (sbF (M 77) (M 72 6) (M 72 7) (rwM M 89 v) (rwM M 89 w) k).2)), some (.int (nI k)), some (.int (M 89 (60 * v + k))), some (.int (M 89 (60 * w + k))), none]) (st' := [.int (-1), .int (M 89 (60 * v + k))]) (M' := M) rfl ⟨trivial, rfl, trivial, trivial, trivial, trivial, trivial, ⟨(by simp only [nI_add, pk_mul, nI_s1, Nat.reduceAdd, Nat.reduceMul]), (by show _ < 300; omega)⟩, trivial, trivial, trivial, trivial⟩ ?_
          refine g_icmp_ne (off := 12) (tgt := 97) (by decide +kernel) (by decide) (fun c4 => ?_) (fun c4 => ?_)
          · refine blk 7 [(.iload 8, 0, 0, 0), (.iconst (-1), 0, 0, (-1))] [] (by decide +kernel) rfl (pc' := 100) (ls' := [some (.ref 72), some (.int (nI 0)), some (.int (nI v)), some (.int (nI w)), some (.int (nI W)), some (.int ((sbF (M 77) (M 72 6) (M 72 7) (rwM M 89 v) (rwM M 89 w) k).1)), some (.int (swp (sbF (M 77) (M 72 6) (M 72 7) (rwM M 89 v) (rwM M 89 w) k).2)), some (.int (nI k)), some (.int (M 89 (60 * v + k))), some (.int (M 89 (60 * w + k))), none]) (st' := [.int (-1), .int (M 89 (60 * v + k))]) (M' := M) rfl ⟨trivial, trivial, trivial⟩ ?_
            refine g_icmp_ne (off := 7) (tgt := 107) (by decide +kernel) (by decide) (fun c5 => ?_) (fun c5 => ?_)
            · refine blk 7 [(.iload 9, 0, 0, 0), (.iconst (-1), 0, 0, (-1))] [] (by decide +kernel) rfl (pc' := 110) (ls' := [some (.ref 72), some (.int (nI 0)), some (.int (nI v)), some (.int (nI w)), some (.int (nI W)), some (.int ((sbF (M 77) (M 72 6) (M 72 7) (rwM M 89 v) (rwM M 89 w) k).1)), some (.int (swp (sbF (M 77) (M 72 6) (M 72 7) (rwM M 89 v) (rwM M 89 w) k).2)), some (.int (nI k)), some (.int (M 89 (60 * v + k))), some (.int (M 89 (60 * w + k))), none]) (st' := [.int (-1), .int (M 89 (60 * w + k))]) (M' := M) rfl ⟨trivial, trivial, trivial⟩ ?_
              refine g_icmp_ne (off := 7) (tgt := 117) (by decide +kernel) (by decide) (fun c6 => ?_) (fun c6 => ?_)
              · refine blk 7 [(.iconst 0, 0, 0, (nI 0)), (.istore 10, 0, 0, 0), (.iload 5, 0, 0, 0), (.iload 10, 0, 0, 0)] [] (by decide +kernel) rfl (pc' := 124) (ls' := [some (.ref 72), some (.int (nI 0)), some (.int (nI v)), some (.int (nI w)), some (.int (nI W)), some (.int ((sbF (M 77) (M 72 6) (M 72 7) (rwM M 89 v) (rwM M 89 w) k).1)), some (.int (swp (sbF (M 77) (M 72 6) (M 72 7) (rwM M 89 v) (rwM M 89 w) k).2)), some (.int (nI k)), some (.int (M 89 (60 * v + k))), some (.int (M 89 (60 * w + k))), some (.int (nI 0))]) (st' := [.int (nI 0), .int ((sbF (M 77) (M 72 6) (M 72 7) (rwM M 89 v) (rwM M 89 w) k).1)]) (M' := M) rfl ⟨trivial, trivial, trivial, trivial, trivial⟩ ?_
                refine g_if_ne (off := 18) (tgt := 142) (by decide +kernel) (by decide) (fun c7 => ?_) (fun c7 => ?_)
                · exact absurd (by decide +kernel) c7
                · have ex := okc_cd (hx k (by omega)) c4
                  have ey := okc_cd (hy k (by omega)) c6
                  refine blk 7 [(.aload_n 0, 0, 0, 0), (.getfield 19, 7, 5, 0), (.iconst 4, 0, 0, (nI 4)), (.iload 8, 0, 0, 0), (.imul, 0, 0, 0), (.iload 9, 0, 0, 0), (.iadd, 0, 0, 0), (.iaload, 0, 0, 0), (.goto (24), 163, 0, 0), (.iadd, 0, 0, 0), (.istore 5, 0, 0, 0), (.iload 10, 0, 0, 0), (.istore 6, 0, 0, 0), (.iinc 7 1, 0, 0, (nI 1)), (.goto (-164), 9, 0, 0)] [cd (M 89 (60 * v + k)) * 4 + cd (M 89 (60 * w + k))] (by decide +kernel) rfl (pc' := 9) (ls' := [some (.ref 72), some (.int (nI 0)), some (.int (nI v)), some (.int (nI w)), some (.int (nI W)), some (.int (((sbF (M 77) (M 72 6) (M 72 7) (rwM M 89 v) (rwM M 89 w) k).1) + (M 77 (cd (M 89 (60 * v + k)) * 4 + cd (M 89 (60 * w + k)))))), some (.int (nI 0)), some (.int (nI k + nI 1)), some (.int (M 89 (60 * v + k))), some (.int (M 89 (60 * w + k))), some (.int (nI 0))]) (st' := []) (M' := M) rfl ⟨trivial, rfl, trivial, trivial, trivial, trivial, trivial, ⟨(ixm ex.1 ey.1), (by show _ < 16; omega)⟩, trivial, trivial, trivial, trivial, trivial, trivial, trivial, trivial⟩ ?_
                  have e0 : sbF (M 77) (M 72 6) (M 72 7) (rwM M 89 v) (rwM M 89 w) (k + 1) = sbS (M 77) (M 72 6) (M 72 7) (M 89 (60 * v + k)) (M 89 (60 * w + k)) (sbF (M 77) (M 72 6) (M 72 7) (rwM M 89 v) (rwM M 89 w) k) := rfl
                  have e : sbF (M 77) (M 72 6) (M 72 7) (rwM M 89 v) (rwM M 89 w) (k + 1) = ((sbF (M 77) (M 72 6) (M 72 7) (rwM M 89 v) (rwM M 89 w) k).1 + M 77 (cd (M 89 (60 * v + k)) * 4 + cd (M 89 (60 * w + k))), nI 0) := by
                    rw [e0]; unfold sbS; rw [if_neg (fun z => c4 z.1), if_neg c4, if_neg c6]
                  refine G.sub (ls' := [some (.ref 72), some (.int (nI 0)), some (.int (nI v)), some (.int (nI w)), some (.int (nI W)), some (.int ((sbF (M 77) (M 72 6) (M 72 7) (rwM M 89 v) (rwM M 89 w) (k + 1)).1)), some (.int (swp (sbF (M 77) (M 72 6) (M 72 7) (rwM M 89 v) (rwM M 89 w) (k + 1)).2)), some (.int (nI (k + 1))), none, none, none]) ?_ ⟨rfl, rfl, rfl, rfl, rfl, congrArg (fun z => some (Value.int z)) (by rw [e]), congrArg (fun z => some (Value.int z)) (by rw [e]; first | exact sw0 | exact sw1 | exact sw2), congrArg (fun z => some (Value.int z)) (by simp only [nI_add, nI_s1]), trivial⟩
                  exact ih (d - 1) (by omega) (k + 1) (by omega) (by omega)
              · refine blk 7 [(.iconst 2, 0, 0, (nI 2)), (.goto (4), 118, 0, 0), (.istore 10, 0, 0, 0), (.iload 5, 0, 0, 0), (.iload 10, 0, 0, 0)] [] (by decide +kernel) rfl (pc' := 124) (ls' := [some (.ref 72), some (.int (nI 0)), some (.int (nI v)), some (.int (nI w)), some (.int (nI W)), some (.int ((sbF (M 77) (M 72 6) (M 72 7) (rwM M 89 v) (rwM M 89 w) k).1)), some (.int (swp (sbF (M 77) (M 72 6) (M 72 7) (rwM M 89 v) (rwM M 89 w) k).2)), some (.int (nI k)), some (.int (M 89 (60 * v + k))), some (.int (M 89 (60 * w + k))), some (.int (nI 2))]) (st' := [.int (nI 2), .int ((sbF (M 77) (M 72 6) (M 72 7) (rwM M 89 v) (rwM M 89 w) k).1)]) (M' := M) rfl ⟨trivial, trivial, trivial, trivial, trivial, trivial⟩ ?_
                refine g_if_ne (off := 18) (tgt := 142) (by decide +kernel) (by decide) (fun c8 => ?_) (fun c8 => ?_)
                · refine blk 7 [(.aload_n 0, 0, 0, 0), (.getfield 26, 7, 7, 0), (.ineg, 0, 0, 0), (.iload 10, 0, 0, 0), (.iload 6, 0, 0, 0)] [] (by decide +kernel) rfl (pc' := 151) (ls' := [some (.ref 72), some (.int (nI 0)), some (.int (nI v)), some (.int (nI w)), some (.int (nI W)), some (.int ((sbF (M 77) (M 72 6) (M 72 7) (rwM M 89 v) (rwM M 89 w) k).1)), some (.int (swp (sbF (M 77) (M 72 6) (M 72 7) (rwM M 89 v) (rwM M 89 w) k).2)), some (.int (nI k)), some (.int (M 89 (60 * v + k))), some (.int (M 89 (60 * w + k))), some (.int (nI 2))]) (st' := [.int (swp (sbF (M 77) (M 72 6) (M 72 7) (rwM M 89 v) (rwM M 89 w) k).2), .int (nI 2), .int (-(M 72 7)), .int ((sbF (M 77) (M 72 6) (M 72 7) (rwM M 89 v) (rwM M 89 w) k).1)]) (M' := M) rfl ⟨trivial, rfl, trivial, trivial, trivial, trivial⟩ ?_
                  refine g_icmp_ne (off := 7) (tgt := 158) (by decide +kernel) (by decide) (fun c9 => ?_) (fun c9 => ?_)
                  · refine blk 7 [(.aload_n 0, 0, 0, 0), (.getfield 22, 7, 6, 0), (.isub, 0, 0, 0), (.iadd, 0, 0, 0), (.istore 5, 0, 0, 0), (.iload 10, 0, 0, 0), (.istore 6, 0, 0, 0), (.iinc 7 1, 0, 0, (nI 1)), (.goto (-164), 9, 0, 0)] [] (by decide +kernel) rfl (pc' := 9) (ls' := [some (.ref 72), some (.int (nI 0)), some (.int (nI v)), some (.int (nI w)), some (.int (nI W)), some (.int (((sbF (M 77) (M 72 6) (M 72 7) (rwM M 89 v) (rwM M 89 w) k).1) + ((-(M 72 7)) - (M 72 6)))), some (.int (nI 2)), some (.int (nI k + nI 1)), some (.int (M 89 (60 * v + k))), some (.int (M 89 (60 * w + k))), some (.int (nI 2))]) (st' := []) (M' := M) rfl ⟨trivial, rfl, trivial, trivial, trivial, trivial, trivial, trivial, trivial, trivial⟩ ?_
                    have e0 : sbF (M 77) (M 72 6) (M 72 7) (rwM M 89 v) (rwM M 89 w) (k + 1) = sbS (M 77) (M 72 6) (M 72 7) (M 89 (60 * v + k)) (M 89 (60 * w + k)) (sbF (M 77) (M 72 6) (M 72 7) (rwM M 89 v) (rwM M 89 w) k) := rfl
                    have e : sbF (M 77) (M 72 6) (M 72 7) (rwM M 89 v) (rwM M 89 w) (k + 1) = ((sbF (M 77) (M 72 6) (M 72 7) (rwM M 89 v) (rwM M 89 w) k).1 - (M 72 7 + M 72 6), nI 1) := by
                      rw [e0]; unfold sbS; rw [if_neg (fun z => c4 z.1), if_neg c4, if_pos c6, if_neg (fun z => c9 (swp2.mpr z))]
                    refine G.sub (ls' := [some (.ref 72), some (.int (nI 0)), some (.int (nI v)), some (.int (nI w)), some (.int (nI W)), some (.int ((sbF (M 77) (M 72 6) (M 72 7) (rwM M 89 v) (rwM M 89 w) (k + 1)).1)), some (.int (swp (sbF (M 77) (M 72 6) (M 72 7) (rwM M 89 v) (rwM M 89 w) (k + 1)).2)), some (.int (nI (k + 1))), none, none, none]) ?_ ⟨rfl, rfl, rfl, rfl, rfl, congrArg (fun z => some (Value.int z)) (by rw [e]; exact add_negs _ _ _), congrArg (fun z => some (Value.int z)) (by rw [e]; first | exact sw0 | exact sw1 | exact sw2), congrArg (fun z => some (Value.int z)) (by simp only [nI_add, nI_s1]), trivial⟩
                    exact ih (d - 1) (by omega) (k + 1) (by omega) (by omega)
                  · refine blk 7 [(.iconst 0, 0, 0, (nI 0)), (.goto (7), 162, 0, 0), (.isub, 0, 0, 0), (.iadd, 0, 0, 0), (.istore 5, 0, 0, 0), (.iload 10, 0, 0, 0), (.istore 6, 0, 0, 0), (.iinc 7 1, 0, 0, (nI 1)), (.goto (-164), 9, 0, 0)] [] (by decide +kernel) rfl (pc' := 9) (ls' := [some (.ref 72), some (.int (nI 0)), some (.int (nI v)), some (.int (nI w)), some (.int (nI W)), some (.int (((sbF (M 77) (M 72 6) (M 72 7) (rwM M 89 v) (rwM M 89 w) k).1) + ((-(M 72 7)) - (nI 0)))), some (.int (nI 2)), some (.int (nI k + nI 1)), some (.int (M 89 (60 * v + k))), some (.int (M 89 (60 * w + k))), some (.int (nI 2))]) (st' := []) (M' := M) rfl ⟨trivial, trivial, trivial, trivial, trivial, trivial, trivial, trivial, trivial, trivial⟩ ?_
                    have e0 : sbF (M 77) (M 72 6) (M 72 7) (rwM M 89 v) (rwM M 89 w) (k + 1) = sbS (M 77) (M 72 6) (M 72 7) (M 89 (60 * v + k)) (M 89 (60 * w + k)) (sbF (M 77) (M 72 6) (M 72 7) (rwM M 89 v) (rwM M 89 w) k) := rfl
                    have e : sbF (M 77) (M 72 6) (M 72 7) (rwM M 89 v) (rwM M 89 w) (k + 1) = ((sbF (M 77) (M 72 6) (M 72 7) (rwM M 89 v) (rwM M 89 w) k).1 - (M 72 7 + nI 0), nI 1) := by
                      rw [e0]; unfold sbS; rw [if_neg (fun z => c4 z.1), if_neg c4, if_pos c6, if_pos (swp2.mp c9)]
                    refine G.sub (ls' := [some (.ref 72), some (.int (nI 0)), some (.int (nI v)), some (.int (nI w)), some (.int (nI W)), some (.int ((sbF (M 77) (M 72 6) (M 72 7) (rwM M 89 v) (rwM M 89 w) (k + 1)).1)), some (.int (swp (sbF (M 77) (M 72 6) (M 72 7) (rwM M 89 v) (rwM M 89 w) (k + 1)).2)), some (.int (nI (k + 1))), none, none, none]) ?_ ⟨rfl, rfl, rfl, rfl, rfl, congrArg (fun z => some (Value.int z)) (by rw [e]; exact add_negs _ _ _), congrArg (fun z => some (Value.int z)) (by rw [e]; first | exact sw0 | exact sw1 | exact sw2), congrArg (fun z => some (Value.int z)) (by simp only [nI_add, nI_s1]), trivial⟩
                    exact ih (d - 1) (by omega) (k + 1) (by omega) (by omega)
                · exact absurd c8 (by decide +kernel)
            · exact absurd c5 c4
          · refine blk 7 [(.iload 9, 0, 0, 0), (.iconst (-1), 0, 0, (-1))] [] (by decide +kernel) rfl (pc' := 91) (ls' := [some (.ref 72), some (.int (nI 0)), some (.int (nI v)), some (.int (nI w)), some (.int (nI W)), some (.int ((sbF (M 77) (M 72 6) (M 72 7) (rwM M 89 v) (rwM M 89 w) k).1)), some (.int (swp (sbF (M 77) (M 72 6) (M 72 7) (rwM M 89 v) (rwM M 89 w) k).2)), some (.int (nI k)), some (.int (M 89 (60 * v + k))), some (.int (M 89 (60 * w + k))), none]) (st' := [.int (-1), .int (M 89 (60 * w + k))]) (M' := M) rfl ⟨trivial, trivial, trivial⟩ ?_
            refine g_icmp_ne (off := 6) (tgt := 97) (by decide +kernel) (by decide) (fun c10 => ?_) (fun c10 => ?_)
            · refine blk 7 [(.iload 8, 0, 0, 0), (.iconst (-1), 0, 0, (-1))] [] (by decide +kernel) rfl (pc' := 100) (ls' := [some (.ref 72), some (.int (nI 0)), some (.int (nI v)), some (.int (nI w)), some (.int (nI W)), some (.int ((sbF (M 77) (M 72 6) (M 72 7) (rwM M 89 v) (rwM M 89 w) k).1)), some (.int (swp (sbF (M 77) (M 72 6) (M 72 7) (rwM M 89 v) (rwM M 89 w) k).2)), some (.int (nI k)), some (.int (M 89 (60 * v + k))), some (.int (M 89 (60 * w + k))), none]) (st' := [.int (-1), .int (M 89 (60 * v + k))]) (M' := M) rfl ⟨trivial, trivial, trivial⟩ ?_
              refine g_icmp_ne (off := 7) (tgt := 107) (by decide +kernel) (by decide) (fun c11 => ?_) (fun c11 => ?_)
              · exact absurd c4 c11
              · refine blk 7 [(.iconst 1, 0, 0, (nI 1)), (.goto (14), 118, 0, 0), (.istore 10, 0, 0, 0), (.iload 5, 0, 0, 0), (.iload 10, 0, 0, 0)] [] (by decide +kernel) rfl (pc' := 124) (ls' := [some (.ref 72), some (.int (nI 0)), some (.int (nI v)), some (.int (nI w)), some (.int (nI W)), some (.int ((sbF (M 77) (M 72 6) (M 72 7) (rwM M 89 v) (rwM M 89 w) k).1)), some (.int (swp (sbF (M 77) (M 72 6) (M 72 7) (rwM M 89 v) (rwM M 89 w) k).2)), some (.int (nI k)), some (.int (M 89 (60 * v + k))), some (.int (M 89 (60 * w + k))), some (.int (nI 1))]) (st' := [.int (nI 1), .int ((sbF (M 77) (M 72 6) (M 72 7) (rwM M 89 v) (rwM M 89 w) k).1)]) (M' := M) rfl ⟨trivial, trivial, trivial, trivial, trivial, trivial⟩ ?_
                refine g_if_ne (off := 18) (tgt := 142) (by decide +kernel) (by decide) (fun c12 => ?_) (fun c12 => ?_)
                · refine blk 7 [(.aload_n 0, 0, 0, 0), (.getfield 26, 7, 7, 0), (.ineg, 0, 0, 0), (.iload 10, 0, 0, 0), (.iload 6, 0, 0, 0)] [] (by decide +kernel) rfl (pc' := 151) (ls' := [some (.ref 72), some (.int (nI 0)), some (.int (nI v)), some (.int (nI w)), some (.int (nI W)), some (.int ((sbF (M 77) (M 72 6) (M 72 7) (rwM M 89 v) (rwM M 89 w) k).1)), some (.int (swp (sbF (M 77) (M 72 6) (M 72 7) (rwM M 89 v) (rwM M 89 w) k).2)), some (.int (nI k)), some (.int (M 89 (60 * v + k))), some (.int (M 89 (60 * w + k))), some (.int (nI 1))]) (st' := [.int (swp (sbF (M 77) (M 72 6) (M 72 7) (rwM M 89 v) (rwM M 89 w) k).2), .int (nI 1), .int (-(M 72 7)), .int ((sbF (M 77) (M 72 6) (M 72 7) (rwM M 89 v) (rwM M 89 w) k).1)]) (M' := M) rfl ⟨trivial, rfl, trivial, trivial, trivial, trivial⟩ ?_
                  refine g_icmp_ne (off := 7) (tgt := 158) (by decide +kernel) (by decide) (fun c13 => ?_) (fun c13 => ?_)
                  · refine blk 7 [(.aload_n 0, 0, 0, 0), (.getfield 22, 7, 6, 0), (.isub, 0, 0, 0), (.iadd, 0, 0, 0), (.istore 5, 0, 0, 0), (.iload 10, 0, 0, 0), (.istore 6, 0, 0, 0), (.iinc 7 1, 0, 0, (nI 1)), (.goto (-164), 9, 0, 0)] [] (by decide +kernel) rfl (pc' := 9) (ls' := [some (.ref 72), some (.int (nI 0)), some (.int (nI v)), some (.int (nI w)), some (.int (nI W)), some (.int (((sbF (M 77) (M 72 6) (M 72 7) (rwM M 89 v) (rwM M 89 w) k).1) + ((-(M 72 7)) - (M 72 6)))), some (.int (nI 1)), some (.int (nI k + nI 1)), some (.int (M 89 (60 * v + k))), some (.int (M 89 (60 * w + k))), some (.int (nI 1))]) (st' := []) (M' := M) rfl ⟨trivial, rfl, trivial, trivial, trivial, trivial, trivial, trivial, trivial, trivial⟩ ?_
                    have e0 : sbF (M 77) (M 72 6) (M 72 7) (rwM M 89 v) (rwM M 89 w) (k + 1) = sbS (M 77) (M 72 6) (M 72 7) (M 89 (60 * v + k)) (M 89 (60 * w + k)) (sbF (M 77) (M 72 6) (M 72 7) (rwM M 89 v) (rwM M 89 w) k) := rfl
                    have e : sbF (M 77) (M 72 6) (M 72 7) (rwM M 89 v) (rwM M 89 w) (k + 1) = ((sbF (M 77) (M 72 6) (M 72 7) (rwM M 89 v) (rwM M 89 w) k).1 - (M 72 7 + M 72 6), nI 2) := by
                      rw [e0]; unfold sbS; rw [if_neg (fun z => c10 z.2), if_pos c4, if_neg (fun z => c13 (swp1.mpr z))]
                    refine G.sub (ls' := [some (.ref 72), some (.int (nI 0)), some (.int (nI v)), some (.int (nI w)), some (.int (nI W)), some (.int ((sbF (M 77) (M 72 6) (M 72 7) (rwM M 89 v) (rwM M 89 w) (k + 1)).1)), some (.int (swp (sbF (M 77) (M 72 6) (M 72 7) (rwM M 89 v) (rwM M 89 w) (k + 1)).2)), some (.int (nI (k + 1))), none, none, none]) ?_ ⟨rfl, rfl, rfl, rfl, rfl, congrArg (fun z => some (Value.int z)) (by rw [e]; exact add_negs _ _ _), congrArg (fun z => some (Value.int z)) (by rw [e]; first | exact sw0 | exact sw1 | exact sw2), congrArg (fun z => some (Value.int z)) (by simp only [nI_add, nI_s1]), trivial⟩
                    exact ih (d - 1) (by omega) (k + 1) (by omega) (by omega)
                  · refine blk 7 [(.iconst 0, 0, 0, (nI 0)), (.goto (7), 162, 0, 0), (.isub, 0, 0, 0), (.iadd, 0, 0, 0), (.istore 5, 0, 0, 0), (.iload 10, 0, 0, 0), (.istore 6, 0, 0, 0), (.iinc 7 1, 0, 0, (nI 1)), (.goto (-164), 9, 0, 0)] [] (by decide +kernel) rfl (pc' := 9) (ls' := [some (.ref 72), some (.int (nI 0)), some (.int (nI v)), some (.int (nI w)), some (.int (nI W)), some (.int (((sbF (M 77) (M 72 6) (M 72 7) (rwM M 89 v) (rwM M 89 w) k).1) + ((-(M 72 7)) - (nI 0)))), some (.int (nI 1)), some (.int (nI k + nI 1)), some (.int (M 89 (60 * v + k))), some (.int (M 89 (60 * w + k))), some (.int (nI 1))]) (st' := []) (M' := M) rfl ⟨trivial, trivial, trivial, trivial, trivial, trivial, trivial, trivial, trivial, trivial⟩ ?_
                    have e0 : sbF (M 77) (M 72 6) (M 72 7) (rwM M 89 v) (rwM M 89 w) (k + 1) = sbS (M 77) (M 72 6) (M 72 7) (M 89 (60 * v + k)) (M 89 (60 * w + k)) (sbF (M 77) (M 72 6) (M 72 7) (rwM M 89 v) (rwM M 89 w) k) := rfl
                    have e : sbF (M 77) (M 72 6) (M 72 7) (rwM M 89 v) (rwM M 89 w) (k + 1) = ((sbF (M 77) (M 72 6) (M 72 7) (rwM M 89 v) (rwM M 89 w) k).1 - (M 72 7 + nI 0), nI 2) := by
                      rw [e0]; unfold sbS; rw [if_neg (fun z => c10 z.2), if_pos c4, if_pos (swp1.mp c13)]
                    refine G.sub (ls' := [some (.ref 72), some (.int (nI 0)), some (.int (nI v)), some (.int (nI w)), some (.int (nI W)), some (.int ((sbF (M 77) (M 72 6) (M 72 7) (rwM M 89 v) (rwM M 89 w) (k + 1)).1)), some (.int (swp (sbF (M 77) (M 72 6) (M 72 7) (rwM M 89 v) (rwM M 89 w) (k + 1)).2)), some (.int (nI (k + 1))), none, none, none]) ?_ ⟨rfl, rfl, rfl, rfl, rfl, congrArg (fun z => some (Value.int z)) (by rw [e]; exact add_negs _ _ _), congrArg (fun z => some (Value.int z)) (by rw [e]; first | exact sw0 | exact sw1 | exact sw2), congrArg (fun z => some (Value.int z)) (by simp only [nI_add, nI_s1]), trivial⟩
                    exact ih (d - 1) (by omega) (k + 1) (by omega) (by omega)
                · exact absurd c12 (by decide +kernel)
            · refine blk 7 [(.goto (76), 170, 0, 0), (.iinc 7 1, 0, 0, (nI 1)), (.goto (-164), 9, 0, 0)] [] (by decide +kernel) rfl (pc' := 9) (ls' := [some (.ref 72), some (.int (nI 0)), some (.int (nI v)), some (.int (nI w)), some (.int (nI W)), some (.int ((sbF (M 77) (M 72 6) (M 72 7) (rwM M 89 v) (rwM M 89 w) k).1)), some (.int (swp (sbF (M 77) (M 72 6) (M 72 7) (rwM M 89 v) (rwM M 89 w) k).2)), some (.int (nI k + nI 1)), some (.int (M 89 (60 * v + k))), some (.int (M 89 (60 * w + k))), none]) (st' := []) (M' := M) rfl ⟨trivial, trivial, trivial, trivial⟩ ?_
              have e0 : sbF (M 77) (M 72 6) (M 72 7) (rwM M 89 v) (rwM M 89 w) (k + 1) = sbS (M 77) (M 72 6) (M 72 7) (M 89 (60 * v + k)) (M 89 (60 * w + k)) (sbF (M 77) (M 72 6) (M 72 7) (rwM M 89 v) (rwM M 89 w) k) := rfl
              have e : sbF (M 77) (M 72 6) (M 72 7) (rwM M 89 v) (rwM M 89 w) (k + 1) = sbF (M 77) (M 72 6) (M 72 7) (rwM M 89 v) (rwM M 89 w) k := e0.trans (if_pos ⟨c4, c10⟩)
              refine G.sub (ls' := [some (.ref 72), some (.int (nI 0)), some (.int (nI v)), some (.int (nI w)), some (.int (nI W)), some (.int ((sbF (M 77) (M 72 6) (M 72 7) (rwM M 89 v) (rwM M 89 w) (k + 1)).1)), some (.int (swp (sbF (M 77) (M 72 6) (M 72 7) (rwM M 89 v) (rwM M 89 w) (k + 1)).2)), some (.int (nI (k + 1))), none, none, none]) ?_ ⟨rfl, rfl, rfl, rfl, rfl, congrArg (fun z => some (Value.int z)) (by rw [e]), congrArg (fun z => some (Value.int z)) (by rw [e]), congrArg (fun z => some (Value.int z)) (by simp only [nI_add, nI_s1]), trivial⟩
              exact ih (d - 1) (by omega) (k + 1) (by omega) (by omega)
        · exact absurd (by decide +kernel) c3
      · exact absurd (by decide +kernel) c2
theorem s_pt89 (M : Mem) {v w W : Nat} (hv : v < 5) (hw : w < 5) (hW : W ≤ 60) (hx : ∀ k, k < W → okc (M 89 (60 * v + k))) (hy : ∀ k, k < W → okc (M 89 (60 * w + k))) : Spec mX7_pairTotal [.ref 72, .int (nI 0), .int (nI v), .int (nI w), .int (nI W)] M (Ret (sbF (M 77) (M 72 6) (M 72 7) (rwM M 89 v) (rwM M 89 w) W).1 M) := by
  refine Spec.of (by decide) (by simp [Value.category]) (Nat.le_of_ble_eq_true rfl) ?_
  refine blk 7 [(.iconst 0, 0, 0, (nI 0)), (.istore 5, 0, 0, 0), (.iconst 0, 0, 0, (nI 0)), (.istore 6, 0, 0, 0), (.iconst 0, 0, 0, (nI 0)), (.istore 7, 0, 0, 0)] [] (by decide +kernel) rfl (pc' := 9) (ls' := [some (.ref 72), some (.int (nI 0)), some (.int (nI v)), some (.int (nI w)), some (.int (nI W)), some (.int (nI 0)), some (.int (nI 0)), some (.int (nI 0)), none, none, none]) (st' := []) (M' := M) rfl ⟨trivial, trivial, trivial, trivial, trivial, trivial, trivial⟩ ?_
  exact l_pt89 hv hw hW hx hy _ 0 rfl (by omega)
theorem l_pt92 {M : Mem} {v w W : Nat} (hv : v < 5) (hw : w < 5) (hW : W ≤ 60) (hx : ∀ k, k < W → okc (M 92 (60 * v + k))) (hy : ∀ k, k < W → okc (M 92 (60 * w + k))) : ∀ d k, d = W - k → k ≤ W → G mX7_pairTotal 9 [some (.ref 72), some (.int (nI 1)), some (.int (nI v)), some (.int (nI w)), some (.int (nI W)), some (.int ((sbF (M 77) (M 72 6) (M 72 7) (rwM M 92 v) (rwM M 92 w) k).1)), some (.int (swp (sbF (M 77) (M 72 6) (M 72 7) (rwM M 92 v) (rwM M 92 w) k).2)), some (.int (nI k)), none, none, none] [] M (Ret (sbF (M 77) (M 72 6) (M 72 7) (rwM M 92 v) (rwM M 92 w) W).1 M) := by
  intro d
  induction d using Nat.strongRecOn with
  | ind d ih =>
    intro k hd hk
    refine blk 7 [(.iload 7, 0, 0, 0), (.iload 4, 0, 0, 0)] [] (by decide +kernel) rfl (pc' := 13) (ls' := [some (.ref 72), some (.int (nI 1)), some (.int (nI v)), some (.int (nI w)), some (.int (nI W)), some (.int ((sbF (M 77) (M 72 6) (M 72 7) (rwM M 92 v) (rwM M 92 w) k).1)), some (.int (swp (sbF (M 77) (M 72 6) (M 72 7) (rwM M 92 v) (rwM M 92 w) k).2)), some (.int (nI k)), none, none, none]) (st' := [.int (nI W), .int (nI k)]) (M' := M) rfl ⟨trivial, trivial, trivial⟩ ?_
    refine g_icmp_ge (off := 163) (tgt := 176) (by decide +kernel) (by decide) (fun c1 => ?_) (fun c1 => ?_)
    · have nc1 : W ≤ k := (nI_leI (by omega) (by omega)).mp (by simpa only [nI_add, pk_mul, nI_s1, n0_lit] using c1)
      refine blk 7 [(.iload 5, 0, 0, 0)] [] (by decide +kernel) rfl (pc' := 178) (ls' := [some (.ref 72), some (.int (nI 1)), some (.int (nI v)), some (.int (nI w)), some (.int (nI W)), some (.int ((sbF (M 77) (M 72 6) (M 72 7) (rwM M 92 v) (rwM M 92 w) k).1)), some (.int (swp (sbF (M 77) (M 72 6) (M 72 7) (rwM M 92 v) (rwM M 92 w) k).2)), some (.int (nI k)), none, none, none]) (st' := [.int ((sbF (M 77) (M 72 6) (M 72 7) (rwM M 92 v) (rwM M 92 w) k).1)]) (M' := M) rfl ⟨trivial, trivial⟩ ?_
      have e : k = W := by omega
      subst e
      exact g_ireturn (by decide +kernel) rfl rfl ⟨rfl, rfl⟩
    · have nc1 : k < W := by
        have z : ¬ nI W ≤ nI k := by simpa only [nI_add, pk_mul, nI_s1, n0_lit] using c1
        rw [nI_leI (by omega) (by omega)] at z
        omega
      refine blk 7 [(.iload_n 1, 0, 0, 0)] [] (by decide +kernel) rfl (pc' := 17) (ls' := [some (.ref 72), some (.int (nI 1)), some (.int (nI v)), some (.int (nI w)), some (.int (nI W)), some (.int ((sbF (M 77) (M 72 6) (M 72 7) (rwM M 92 v) (rwM M 92 w) k).1)), some (.int (swp (sbF (M 77) (M 72 6) (M 72 7) (rwM M 92 v) (rwM M 92 w) k).2)), some (.int (nI k)), none, none, none]) (st' := [.int (nI 1)]) (M' := M) rfl ⟨trivial, trivial⟩ ?_
      refine g_if_eq (off := 18) (tgt := 35) (by decide +kernel) (by decide) (fun c2 => ?_) (fun c2 => ?_)
      · exact absurd c2 (by decide +kernel)
      · refine blk 7 [(.aload_n 0, 0, 0, 0), (.getfield 71, 7, 32, 0), (.bipush 60, 0, 0, (nI 60)), (.iload_n 2, 0, 0, 0), (.imul, 0, 0, 0), (.iload 7, 0, 0, 0), (.iadd, 0, 0, 0), (.iaload, 0, 0, 0), (.goto (15), 47, 0, 0), (.istore 8, 0, 0, 0), (.iload_n 1, 0, 0, 0)] [60 * v + k] (by decide +kernel) rfl (pc' := 50) (ls' := [some (.ref 72), some (.int (nI 1)), some (.int (nI v)), some (.int (nI w)), some (.int (nI W)), some (.int ((sbF (M 77) (M 72 6) (M 72 7) (rwM M 92 v) (rwM M 92 w) k).1)), some (.int (swp (sbF (M 77) (M 72 6) (M 72 7) (rwM M 92 v) (rwM M 92 w) k).2)), some (.int (nI k)), some (.int (M 92 (60 * v + k))), none, none]) (st' := [.int (nI 1)]) (M' := M) rfl ⟨trivial, rfl, trivial, trivial, trivial, trivial, trivial, ⟨(by simp only [nI_add, pk_mul, nI_s1, Nat.reduceAdd, Nat.reduceMul]), (by show _ < 300; omega)⟩, trivial, trivial, trivial, trivial⟩ ?_
        refine g_if_eq (off := 18) (tgt := 68) (by decide +kernel) (by decide) (fun c3 => ?_) (fun c3 => ?_)
        · exact absurd c3 (by decide +kernel)
        · refine blk 7 [(.aload_n 0, 0, 0, 0), (.getfield 71, 7, 32, 0), (.bipush 60, 0, 0, (nI 60)), (.iload_n 3, 0, 0, 0), (.imul, 0, 0, 0), (.iload 7, 0, 0, 0), (.iadd, 0, 0, 0), (.iaload, 0, 0, 0), (.goto (15), 80, 0, 0), (.istore 9, 0, 0, 0), (.iload 8, 0, 0, 0), (.iconst (-1), 0, 0, (-1))] [60 * w + k] (by decide +kernel) rfl (pc' := 85) (ls' := [some (.ref 72), some (.int (nI 1)), some (.int (nI v)), some (.int (nI w)), some (.int (nI W)), some (.int ((sbF (M 77) (M 72 6) (M 72 7) (rwM M 92 v) (rwM M 92 w) k).1)), some (.int (swp (sbF (M 77) (M 72 6) (M 72 7) (rwM M 92 v) (rwM M 92 w) k).2)), some (.int (nI k)), some (.int (M 92 (60 * v + k))), some (.int (M 92 (60 * w + k))), none]) (st' := [.int (-1), .int (M 92 (60 * v + k))]) (M' := M) rfl ⟨trivial, rfl, trivial, trivial, trivial, trivial, trivial, ⟨(by simp only [nI_add, pk_mul, nI_s1, Nat.reduceAdd, Nat.reduceMul]), (by show _ < 300; omega)⟩, trivial, trivial, trivial, trivial, trivial⟩ ?_
          refine g_icmp_ne (off := 12) (tgt := 97) (by decide +kernel) (by decide) (fun c4 => ?_) (fun c4 => ?_)
          · refine blk 7 [(.iload 8, 0, 0, 0), (.iconst (-1), 0, 0, (-1))] [] (by decide +kernel) rfl (pc' := 100) (ls' := [some (.ref 72), some (.int (nI 1)), some (.int (nI v)), some (.int (nI w)), some (.int (nI W)), some (.int ((sbF (M 77) (M 72 6) (M 72 7) (rwM M 92 v) (rwM M 92 w) k).1)), some (.int (swp (sbF (M 77) (M 72 6) (M 72 7) (rwM M 92 v) (rwM M 92 w) k).2)), some (.int (nI k)), some (.int (M 92 (60 * v + k))), some (.int (M 92 (60 * w + k))), none]) (st' := [.int (-1), .int (M 92 (60 * v + k))]) (M' := M) rfl ⟨trivial, trivial, trivial⟩ ?_
            refine g_icmp_ne (off := 7) (tgt := 107) (by decide +kernel) (by decide) (fun c5 => ?_) (fun c5 => ?_)
            · refine blk 7 [(.iload 9, 0, 0, 0), (.iconst (-1), 0, 0, (-1))] [] (by decide +kernel) rfl (pc' := 110) (ls' := [some (.ref 72), some (.int (nI 1)), some (.int (nI v)), some (.int (nI w)), some (.int (nI W)), some (.int ((sbF (M 77) (M 72 6) (M 72 7) (rwM M 92 v) (rwM M 92 w) k).1)), some (.int (swp (sbF (M 77) (M 72 6) (M 72 7) (rwM M 92 v) (rwM M 92 w) k).2)), some (.int (nI k)), some (.int (M 92 (60 * v + k))), some (.int (M 92 (60 * w + k))), none]) (st' := [.int (-1), .int (M 92 (60 * w + k))]) (M' := M) rfl ⟨trivial, trivial, trivial⟩ ?_
              refine g_icmp_ne (off := 7) (tgt := 117) (by decide +kernel) (by decide) (fun c6 => ?_) (fun c6 => ?_)
              · refine blk 7 [(.iconst 0, 0, 0, (nI 0)), (.istore 10, 0, 0, 0), (.iload 5, 0, 0, 0), (.iload 10, 0, 0, 0)] [] (by decide +kernel) rfl (pc' := 124) (ls' := [some (.ref 72), some (.int (nI 1)), some (.int (nI v)), some (.int (nI w)), some (.int (nI W)), some (.int ((sbF (M 77) (M 72 6) (M 72 7) (rwM M 92 v) (rwM M 92 w) k).1)), some (.int (swp (sbF (M 77) (M 72 6) (M 72 7) (rwM M 92 v) (rwM M 92 w) k).2)), some (.int (nI k)), some (.int (M 92 (60 * v + k))), some (.int (M 92 (60 * w + k))), some (.int (nI 0))]) (st' := [.int (nI 0), .int ((sbF (M 77) (M 72 6) (M 72 7) (rwM M 92 v) (rwM M 92 w) k).1)]) (M' := M) rfl ⟨trivial, trivial, trivial, trivial, trivial⟩ ?_
                refine g_if_ne (off := 18) (tgt := 142) (by decide +kernel) (by decide) (fun c7 => ?_) (fun c7 => ?_)
                · exact absurd (by decide +kernel) c7
                · have ex := okc_cd (hx k (by omega)) c4
                  have ey := okc_cd (hy k (by omega)) c6
                  refine blk 7 [(.aload_n 0, 0, 0, 0), (.getfield 19, 7, 5, 0), (.iconst 4, 0, 0, (nI 4)), (.iload 8, 0, 0, 0), (.imul, 0, 0, 0), (.iload 9, 0, 0, 0), (.iadd, 0, 0, 0), (.iaload, 0, 0, 0), (.goto (24), 163, 0, 0), (.iadd, 0, 0, 0), (.istore 5, 0, 0, 0), (.iload 10, 0, 0, 0), (.istore 6, 0, 0, 0), (.iinc 7 1, 0, 0, (nI 1)), (.goto (-164), 9, 0, 0)] [cd (M 92 (60 * v + k)) * 4 + cd (M 92 (60 * w + k))] (by decide +kernel) rfl (pc' := 9) (ls' := [some (.ref 72), some (.int (nI 1)), some (.int (nI v)), some (.int (nI w)), some (.int (nI W)), some (.int (((sbF (M 77) (M 72 6) (M 72 7) (rwM M 92 v) (rwM M 92 w) k).1) + (M 77 (cd (M 92 (60 * v + k)) * 4 + cd (M 92 (60 * w + k)))))), some (.int (nI 0)), some (.int (nI k + nI 1)), some (.int (M 92 (60 * v + k))), some (.int (M 92 (60 * w + k))), some (.int (nI 0))]) (st' := []) (M' := M) rfl ⟨trivial, rfl, trivial, trivial, trivial, trivial, trivial, ⟨(ixm ex.1 ey.1), (by show _ < 16; omega)⟩, trivial, trivial, trivial, trivial, trivial, trivial, trivial, trivial⟩ ?_
                  have e0 : sbF (M 77) (M 72 6) (M 72 7) (rwM M 92 v) (rwM M 92 w) (k + 1) = sbS (M 77) (M 72 6) (M 72 7) (M 92 (60 * v + k)) (M 92 (60 * w + k)) (sbF (M 77) (M 72 6) (M 72 7) (rwM M 92 v) (rwM M 92 w) k) := rfl
                  have e : sbF (M 77) (M 72 6) (M 72 7) (rwM M 92 v) (rwM M 92 w) (k + 1) = ((sbF (M 77) (M 72 6) (M 72 7) (rwM M 92 v) (rwM M 92 w) k).1 + M 77 (cd (M 92 (60 * v + k)) * 4 + cd (M 92 (60 * w + k))), nI 0) := by
                    rw [e0]; unfold sbS; rw [if_neg (fun z => c4 z.1), if_neg c4, if_neg c6]
                  refine G.sub (ls' := [some (.ref 72), some (.int (nI 1)), some (.int (nI v)), some (.int (nI w)), some (.int (nI W)), some (.int ((sbF (M 77) (M 72 6) (M 72 7) (rwM M 92 v) (rwM M 92 w) (k + 1)).1)), some (.int (swp (sbF (M 77) (M 72 6) (M 72 7) (rwM M 92 v) (rwM M 92 w) (k + 1)).2)), some (.int (nI (k + 1))), none, none, none]) ?_ ⟨rfl, rfl, rfl, rfl, rfl, congrArg (fun z => some (Value.int z)) (by rw [e]), congrArg (fun z => some (Value.int z)) (by rw [e]; first | exact sw0 | exact sw1 | exact sw2), congrArg (fun z => some (Value.int z)) (by simp only [nI_add, nI_s1]), trivial⟩
                  exact ih (d - 1) (by omega) (k + 1) (by omega) (by omega)
              · refine blk 7 [(.iconst 2, 0, 0, (nI 2)), (.goto (4), 118, 0, 0), (.istore 10, 0, 0, 0), (.iload 5, 0, 0, 0), (.iload 10, 0, 0, 0)] [] (by decide +kernel) rfl (pc' := 124) (ls' := [some (.ref 72), some (.int (nI 1)), some (.int (nI v)), some (.int (nI w)), some (.int (nI W)), some (.int ((sbF (M 77) (M 72 6) (M 72 7) (rwM M 92 v) (rwM M 92 w) k).1)), some (.int (swp (sbF (M 77) (M 72 6) (M 72 7) (rwM M 92 v) (rwM M 92 w) k).2)), some (.int (nI k)), some (.int (M 92 (60 * v + k))), some (.int (M 92 (60 * w + k))), some (.int (nI 2))]) (st' := [.int (nI 2), .int ((sbF (M 77) (M 72 6) (M 72 7) (rwM M 92 v) (rwM M 92 w) k).1)]) (M' := M) rfl ⟨trivial, trivial, trivial, trivial, trivial, trivial⟩ ?_
                refine g_if_ne (off := 18) (tgt := 142) (by decide +kernel) (by decide) (fun c8 => ?_) (fun c8 => ?_)
                · refine blk 7 [(.aload_n 0, 0, 0, 0), (.getfield 26, 7, 7, 0), (.ineg, 0, 0, 0), (.iload 10, 0, 0, 0), (.iload 6, 0, 0, 0)] [] (by decide +kernel) rfl (pc' := 151) (ls' := [some (.ref 72), some (.int (nI 1)), some (.int (nI v)), some (.int (nI w)), some (.int (nI W)), some (.int ((sbF (M 77) (M 72 6) (M 72 7) (rwM M 92 v) (rwM M 92 w) k).1)), some (.int (swp (sbF (M 77) (M 72 6) (M 72 7) (rwM M 92 v) (rwM M 92 w) k).2)), some (.int (nI k)), some (.int (M 92 (60 * v + k))), some (.int (M 92 (60 * w + k))), some (.int (nI 2))]) (st' := [.int (swp (sbF (M 77) (M 72 6) (M 72 7) (rwM M 92 v) (rwM M 92 w) k).2), .int (nI 2), .int (-(M 72 7)), .int ((sbF (M 77) (M 72 6) (M 72 7) (rwM M 92 v) (rwM M 92 w) k).1)]) (M' := M) rfl ⟨trivial, rfl, trivial, trivial, trivial, trivial⟩ ?_
                  refine g_icmp_ne (off := 7) (tgt := 158) (by decide +kernel) (by decide) (fun c9 => ?_) (fun c9 => ?_)
                  · refine blk 7 [(.aload_n 0, 0, 0, 0), (.getfield 22, 7, 6, 0), (.isub, 0, 0, 0), (.iadd, 0, 0, 0), (.istore 5, 0, 0, 0), (.iload 10, 0, 0, 0), (.istore 6, 0, 0, 0), (.iinc 7 1, 0, 0, (nI 1)), (.goto (-164), 9, 0, 0)] [] (by decide +kernel) rfl (pc' := 9) (ls' := [some (.ref 72), some (.int (nI 1)), some (.int (nI v)), some (.int (nI w)), some (.int (nI W)), some (.int (((sbF (M 77) (M 72 6) (M 72 7) (rwM M 92 v) (rwM M 92 w) k).1) + ((-(M 72 7)) - (M 72 6)))), some (.int (nI 2)), some (.int (nI k + nI 1)), some (.int (M 92 (60 * v + k))), some (.int (M 92 (60 * w + k))), some (.int (nI 2))]) (st' := []) (M' := M) rfl ⟨trivial, rfl, trivial, trivial, trivial, trivial, trivial, trivial, trivial, trivial⟩ ?_
                    have e0 : sbF (M 77) (M 72 6) (M 72 7) (rwM M 92 v) (rwM M 92 w) (k + 1) = sbS (M 77) (M 72 6) (M 72 7) (M 92 (60 * v + k)) (M 92 (60 * w + k)) (sbF (M 77) (M 72 6) (M 72 7) (rwM M 92 v) (rwM M 92 w) k) := rfl
                    have e : sbF (M 77) (M 72 6) (M 72 7) (rwM M 92 v) (rwM M 92 w) (k + 1) = ((sbF (M 77) (M 72 6) (M 72 7) (rwM M 92 v) (rwM M 92 w) k).1 - (M 72 7 + M 72 6), nI 1) := by
                      rw [e0]; unfold sbS; rw [if_neg (fun z => c4 z.1), if_neg c4, if_pos c6, if_neg (fun z => c9 (swp2.mpr z))]
                    refine G.sub (ls' := [some (.ref 72), some (.int (nI 1)), some (.int (nI v)), some (.int (nI w)), some (.int (nI W)), some (.int ((sbF (M 77) (M 72 6) (M 72 7) (rwM M 92 v) (rwM M 92 w) (k + 1)).1)), some (.int (swp (sbF (M 77) (M 72 6) (M 72 7) (rwM M 92 v) (rwM M 92 w) (k + 1)).2)), some (.int (nI (k + 1))), none, none, none]) ?_ ⟨rfl, rfl, rfl, rfl, rfl, congrArg (fun z => some (Value.int z)) (by rw [e]; exact add_negs _ _ _), congrArg (fun z => some (Value.int z)) (by rw [e]; first | exact sw0 | exact sw1 | exact sw2), congrArg (fun z => some (Value.int z)) (by simp only [nI_add, nI_s1]), trivial⟩
                    exact ih (d - 1) (by omega) (k + 1) (by omega) (by omega)
                  · refine blk 7 [(.iconst 0, 0, 0, (nI 0)), (.goto (7), 162, 0, 0), (.isub, 0, 0, 0), (.iadd, 0, 0, 0), (.istore 5, 0, 0, 0), (.iload 10, 0, 0, 0), (.istore 6, 0, 0, 0), (.iinc 7 1, 0, 0, (nI 1)), (.goto (-164), 9, 0, 0)] [] (by decide +kernel) rfl (pc' := 9) (ls' := [some (.ref 72), some (.int (nI 1)), some (.int (nI v)), some (.int (nI w)), some (.int (nI W)), some (.int (((sbF (M 77) (M 72 6) (M 72 7) (rwM M 92 v) (rwM M 92 w) k).1) + ((-(M 72 7)) - (nI 0)))), some (.int (nI 2)), some (.int (nI k + nI 1)), some (.int (M 92 (60 * v + k))), some (.int (M 92 (60 * w + k))), some (.int (nI 2))]) (st' := []) (M' := M) rfl ⟨trivial, trivial, trivial, trivial, trivial, trivial, trivial, trivial, trivial, trivial⟩ ?_
                    have e0 : sbF (M 77) (M 72 6) (M 72 7) (rwM M 92 v) (rwM M 92 w) (k + 1) = sbS (M 77) (M 72 6) (M 72 7) (M 92 (60 * v + k)) (M 92 (60 * w + k)) (sbF (M 77) (M 72 6) (M 72 7) (rwM M 92 v) (rwM M 92 w) k) := rfl
                    have e : sbF (M 77) (M 72 6) (M 72 7) (rwM M 92 v) (rwM M 92 w) (k + 1) = ((sbF (M 77) (M 72 6) (M 72 7) (rwM M 92 v) (rwM M 92 w) k).1 - (M 72 7 + nI 0), nI 1) := by
                      rw [e0]; unfold sbS; rw [if_neg (fun z => c4 z.1), if_neg c4, if_pos c6, if_pos (swp2.mp c9)]
                    refine G.sub (ls' := [some (.ref 72), some (.int (nI 1)), some (.int (nI v)), some (.int (nI w)), some (.int (nI W)), some (.int ((sbF (M 77) (M 72 6) (M 72 7) (rwM M 92 v) (rwM M 92 w) (k + 1)).1)), some (.int (swp (sbF (M 77) (M 72 6) (M 72 7) (rwM M 92 v) (rwM M 92 w) (k + 1)).2)), some (.int (nI (k + 1))), none, none, none]) ?_ ⟨rfl, rfl, rfl, rfl, rfl, congrArg (fun z => some (Value.int z)) (by rw [e]; exact add_negs _ _ _), congrArg (fun z => some (Value.int z)) (by rw [e]; first | exact sw0 | exact sw1 | exact sw2), congrArg (fun z => some (Value.int z)) (by simp only [nI_add, nI_s1]), trivial⟩
                    exact ih (d - 1) (by omega) (k + 1) (by omega) (by omega)
                · exact absurd c8 (by decide +kernel)
            · exact absurd c5 c4
          · refine blk 7 [(.iload 9, 0, 0, 0), (.iconst (-1), 0, 0, (-1))] [] (by decide +kernel) rfl (pc' := 91) (ls' := [some (.ref 72), some (.int (nI 1)), some (.int (nI v)), some (.int (nI w)), some (.int (nI W)), some (.int ((sbF (M 77) (M 72 6) (M 72 7) (rwM M 92 v) (rwM M 92 w) k).1)), some (.int (swp (sbF (M 77) (M 72 6) (M 72 7) (rwM M 92 v) (rwM M 92 w) k).2)), some (.int (nI k)), some (.int (M 92 (60 * v + k))), some (.int (M 92 (60 * w + k))), none]) (st' := [.int (-1), .int (M 92 (60 * w + k))]) (M' := M) rfl ⟨trivial, trivial, trivial⟩ ?_
            refine g_icmp_ne (off := 6) (tgt := 97) (by decide +kernel) (by decide) (fun c10 => ?_) (fun c10 => ?_)
            · refine blk 7 [(.iload 8, 0, 0, 0), (.iconst (-1), 0, 0, (-1))] [] (by decide +kernel) rfl (pc' := 100) (ls' := [some (.ref 72), some (.int (nI 1)), some (.int (nI v)), some (.int (nI w)), some (.int (nI W)), some (.int ((sbF (M 77) (M 72 6) (M 72 7) (rwM M 92 v) (rwM M 92 w) k).1)), some (.int (swp (sbF (M 77) (M 72 6) (M 72 7) (rwM M 92 v) (rwM M 92 w) k).2)), some (.int (nI k)), some (.int (M 92 (60 * v + k))), some (.int (M 92 (60 * w + k))), none]) (st' := [.int (-1), .int (M 92 (60 * v + k))]) (M' := M) rfl ⟨trivial, trivial, trivial⟩ ?_
              refine g_icmp_ne (off := 7) (tgt := 107) (by decide +kernel) (by decide) (fun c11 => ?_) (fun c11 => ?_)
              · exact absurd c4 c11
              · refine blk 7 [(.iconst 1, 0, 0, (nI 1)), (.goto (14), 118, 0, 0), (.istore 10, 0, 0, 0), (.iload 5, 0, 0, 0), (.iload 10, 0, 0, 0)] [] (by decide +kernel) rfl (pc' := 124) (ls' := [some (.ref 72), some (.int (nI 1)), some (.int (nI v)), some (.int (nI w)), some (.int (nI W)), some (.int ((sbF (M 77) (M 72 6) (M 72 7) (rwM M 92 v) (rwM M 92 w) k).1)), some (.int (swp (sbF (M 77) (M 72 6) (M 72 7) (rwM M 92 v) (rwM M 92 w) k).2)), some (.int (nI k)), some (.int (M 92 (60 * v + k))), some (.int (M 92 (60 * w + k))), some (.int (nI 1))]) (st' := [.int (nI 1), .int ((sbF (M 77) (M 72 6) (M 72 7) (rwM M 92 v) (rwM M 92 w) k).1)]) (M' := M) rfl ⟨trivial, trivial, trivial, trivial, trivial, trivial⟩ ?_
                refine g_if_ne (off := 18) (tgt := 142) (by decide +kernel) (by decide) (fun c12 => ?_) (fun c12 => ?_)
                · refine blk 7 [(.aload_n 0, 0, 0, 0), (.getfield 26, 7, 7, 0), (.ineg, 0, 0, 0), (.iload 10, 0, 0, 0), (.iload 6, 0, 0, 0)] [] (by decide +kernel) rfl (pc' := 151) (ls' := [some (.ref 72), some (.int (nI 1)), some (.int (nI v)), some (.int (nI w)), some (.int (nI W)), some (.int ((sbF (M 77) (M 72 6) (M 72 7) (rwM M 92 v) (rwM M 92 w) k).1)), some (.int (swp (sbF (M 77) (M 72 6) (M 72 7) (rwM M 92 v) (rwM M 92 w) k).2)), some (.int (nI k)), some (.int (M 92 (60 * v + k))), some (.int (M 92 (60 * w + k))), some (.int (nI 1))]) (st' := [.int (swp (sbF (M 77) (M 72 6) (M 72 7) (rwM M 92 v) (rwM M 92 w) k).2), .int (nI 1), .int (-(M 72 7)), .int ((sbF (M 77) (M 72 6) (M 72 7) (rwM M 92 v) (rwM M 92 w) k).1)]) (M' := M) rfl ⟨trivial, rfl, trivial, trivial, trivial, trivial⟩ ?_
                  refine g_icmp_ne (off := 7) (tgt := 158) (by decide +kernel) (by decide) (fun c13 => ?_) (fun c13 => ?_)
                  · refine blk 7 [(.aload_n 0, 0, 0, 0), (.getfield 22, 7, 6, 0), (.isub, 0, 0, 0), (.iadd, 0, 0, 0), (.istore 5, 0, 0, 0), (.iload 10, 0, 0, 0), (.istore 6, 0, 0, 0), (.iinc 7 1, 0, 0, (nI 1)), (.goto (-164), 9, 0, 0)] [] (by decide +kernel) rfl (pc' := 9) (ls' := [some (.ref 72), some (.int (nI 1)), some (.int (nI v)), some (.int (nI w)), some (.int (nI W)), some (.int (((sbF (M 77) (M 72 6) (M 72 7) (rwM M 92 v) (rwM M 92 w) k).1) + ((-(M 72 7)) - (M 72 6)))), some (.int (nI 1)), some (.int (nI k + nI 1)), some (.int (M 92 (60 * v + k))), some (.int (M 92 (60 * w + k))), some (.int (nI 1))]) (st' := []) (M' := M) rfl ⟨trivial, rfl, trivial, trivial, trivial, trivial, trivial, trivial, trivial, trivial⟩ ?_
                    have e0 : sbF (M 77) (M 72 6) (M 72 7) (rwM M 92 v) (rwM M 92 w) (k + 1) = sbS (M 77) (M 72 6) (M 72 7) (M 92 (60 * v + k)) (M 92 (60 * w + k)) (sbF (M 77) (M 72 6) (M 72 7) (rwM M 92 v) (rwM M 92 w) k) := rfl
                    have e : sbF (M 77) (M 72 6) (M 72 7) (rwM M 92 v) (rwM M 92 w) (k + 1) = ((sbF (M 77) (M 72 6) (M 72 7) (rwM M 92 v) (rwM M 92 w) k).1 - (M 72 7 + M 72 6), nI 2) := by
                      rw [e0]; unfold sbS; rw [if_neg (fun z => c10 z.2), if_pos c4, if_neg (fun z => c13 (swp1.mpr z))]
                    refine G.sub (ls' := [some (.ref 72), some (.int (nI 1)), some (.int (nI v)), some (.int (nI w)), some (.int (nI W)), some (.int ((sbF (M 77) (M 72 6) (M 72 7) (rwM M 92 v) (rwM M 92 w) (k + 1)).1)), some (.int (swp (sbF (M 77) (M 72 6) (M 72 7) (rwM M 92 v) (rwM M 92 w) (k + 1)).2)), some (.int (nI (k + 1))), none, none, none]) ?_ ⟨rfl, rfl, rfl, rfl, rfl, congrArg (fun z => some (Value.int z)) (by rw [e]; exact add_negs _ _ _), congrArg (fun z => some (Value.int z)) (by rw [e]; first | exact sw0 | exact sw1 | exact sw2), congrArg (fun z => some (Value.int z)) (by simp only [nI_add, nI_s1]), trivial⟩
                    exact ih (d - 1) (by omega) (k + 1) (by omega) (by omega)
                  · refine blk 7 [(.iconst 0, 0, 0, (nI 0)), (.goto (7), 162, 0, 0), (.isub, 0, 0, 0), (.iadd, 0, 0, 0), (.istore 5, 0, 0, 0), (.iload 10, 0, 0, 0), (.istore 6, 0, 0, 0), (.iinc 7 1, 0, 0, (nI 1)), (.goto (-164), 9, 0, 0)] [] (by decide +kernel) rfl (pc' := 9) (ls' := [some (.ref 72), some (.int (nI 1)), some (.int (nI v)), some (.int (nI w)), some (.int (nI W)), some (.int (((sbF (M 77) (M 72 6) (M 72 7) (rwM M 92 v) (rwM M 92 w) k).1) + ((-(M 72 7)) - (nI 0)))), some (.int (nI 1)), some (.int (nI k + nI 1)), some (.int (M 92 (60 * v + k))), some (.int (M 92 (60 * w + k))), some (.int (nI 1))]) (st' := []) (M' := M) rfl ⟨trivial, trivial, trivial, trivial, trivial, trivial, trivial, trivial, trivial, trivial⟩ ?_
                    have e0 : sbF (M 77) (M 72 6) (M 72 7) (rwM M 92 v) (rwM M 92 w) (k + 1) = sbS (M 77) (M 72 6) (M 72 7) (M 92 (60 * v + k)) (M 92 (60 * w + k)) (sbF (M 77) (M 72 6) (M 72 7) (rwM M 92 v) (rwM M 92 w) k) := rfl
                    have e : sbF (M 77) (M 72 6) (M 72 7) (rwM M 92 v) (rwM M 92 w) (k + 1) = ((sbF (M 77) (M 72 6) (M 72 7) (rwM M 92 v) (rwM M 92 w) k).1 - (M 72 7 + nI 0), nI 2) := by
                      rw [e0]; unfold sbS; rw [if_neg (fun z => c10 z.2), if_pos c4, if_pos (swp1.mp c13)]
                    refine G.sub (ls' := [some (.ref 72), some (.int (nI 1)), some (.int (nI v)), some (.int (nI w)), some (.int (nI W)), some (.int ((sbF (M 77) (M 72 6) (M 72 7) (rwM M 92 v) (rwM M 92 w) (k + 1)).1)), some (.int (swp (sbF (M 77) (M 72 6) (M 72 7) (rwM M 92 v) (rwM M 92 w) (k + 1)).2)), some (.int (nI (k + 1))), none, none, none]) ?_ ⟨rfl, rfl, rfl, rfl, rfl, congrArg (fun z => some (Value.int z)) (by rw [e]; exact add_negs _ _ _), congrArg (fun z => some (Value.int z)) (by rw [e]; first | exact sw0 | exact sw1 | exact sw2), congrArg (fun z => some (Value.int z)) (by simp only [nI_add, nI_s1]), trivial⟩
                    exact ih (d - 1) (by omega) (k + 1) (by omega) (by omega)
                · exact absurd c12 (by decide +kernel)
            · refine blk 7 [(.goto (76), 170, 0, 0), (.iinc 7 1, 0, 0, (nI 1)), (.goto (-164), 9, 0, 0)] [] (by decide +kernel) rfl (pc' := 9) (ls' := [some (.ref 72), some (.int (nI 1)), some (.int (nI v)), some (.int (nI w)), some (.int (nI W)), some (.int ((sbF (M 77) (M 72 6) (M 72 7) (rwM M 92 v) (rwM M 92 w) k).1)), some (.int (swp (sbF (M 77) (M 72 6) (M 72 7) (rwM M 92 v) (rwM M 92 w) k).2)), some (.int (nI k + nI 1)), some (.int (M 92 (60 * v + k))), some (.int (M 92 (60 * w + k))), none]) (st' := []) (M' := M) rfl ⟨trivial, trivial, trivial, trivial⟩ ?_
              have e0 : sbF (M 77) (M 72 6) (M 72 7) (rwM M 92 v) (rwM M 92 w) (k + 1) = sbS (M 77) (M 72 6) (M 72 7) (M 92 (60 * v + k)) (M 92 (60 * w + k)) (sbF (M 77) (M 72 6) (M 72 7) (rwM M 92 v) (rwM M 92 w) k) := rfl
              have e : sbF (M 77) (M 72 6) (M 72 7) (rwM M 92 v) (rwM M 92 w) (k + 1) = sbF (M 77) (M 72 6) (M 72 7) (rwM M 92 v) (rwM M 92 w) k := e0.trans (if_pos ⟨c4, c10⟩)
              refine G.sub (ls' := [some (.ref 72), some (.int (nI 1)), some (.int (nI v)), some (.int (nI w)), some (.int (nI W)), some (.int ((sbF (M 77) (M 72 6) (M 72 7) (rwM M 92 v) (rwM M 92 w) (k + 1)).1)), some (.int (swp (sbF (M 77) (M 72 6) (M 72 7) (rwM M 92 v) (rwM M 92 w) (k + 1)).2)), some (.int (nI (k + 1))), none, none, none]) ?_ ⟨rfl, rfl, rfl, rfl, rfl, congrArg (fun z => some (Value.int z)) (by rw [e]), congrArg (fun z => some (Value.int z)) (by rw [e]), congrArg (fun z => some (Value.int z)) (by simp only [nI_add, nI_s1]), trivial⟩
              exact ih (d - 1) (by omega) (k + 1) (by omega) (by omega)
theorem s_pt92 (M : Mem) {v w W : Nat} (hv : v < 5) (hw : w < 5) (hW : W ≤ 60) (hx : ∀ k, k < W → okc (M 92 (60 * v + k))) (hy : ∀ k, k < W → okc (M 92 (60 * w + k))) : Spec mX7_pairTotal [.ref 72, .int (nI 1), .int (nI v), .int (nI w), .int (nI W)] M (Ret (sbF (M 77) (M 72 6) (M 72 7) (rwM M 92 v) (rwM M 92 w) W).1 M) := by
  refine Spec.of (by decide) (by simp [Value.category]) (Nat.le_of_ble_eq_true rfl) ?_
  refine blk 7 [(.iconst 0, 0, 0, (nI 0)), (.istore 5, 0, 0, 0), (.iconst 0, 0, 0, (nI 0)), (.istore 6, 0, 0, 0), (.iconst 0, 0, 0, (nI 0)), (.istore 7, 0, 0, 0)] [] (by decide +kernel) rfl (pc' := 9) (ls' := [some (.ref 72), some (.int (nI 1)), some (.int (nI v)), some (.int (nI w)), some (.int (nI W)), some (.int (nI 0)), some (.int (nI 0)), some (.int (nI 0)), none, none, none]) (st' := []) (M' := M) rfl ⟨trivial, trivial, trivial, trivial, trivial, trivial, trivial⟩ ?_
  exact l_pt92 hv hw hW hx hy _ 0 rfl (by omega)
def msoF (M : Mem) (t W i : Nat) : Nat → Int32 := fun j => M 88 i * M 88 (i + 1 + j) * (sbF (M 77) (M 72 6) (M 72 7) (rwM M t i) (rwM M t (i + 1 + j)) W).1
def mtot (M : Mem) (t W n : Nat) : Int32 := psum (fun i => psum (msoF M t W i) (n - (i + 1))) n
theorem l_to289 {M : Mem} {n W i : Nat} {A : Int32} {Post : Option Value → Mem → Prop} (hn : M 72 0 = nI n) (hn5 : n ≤ 5) (hW : W ≤ 60) (hc : ∀ a k, a < n → k < W → okc (M 89 (60 * a + k))) (hi : i < n) (hp : G mX7_totalOf 5 [some (.ref 72), some (.int (nI 0)), some (.int (nI W)), some (.int (A + psum (msoF M 89 W i) (n - (i + 1)))), some (.int (nI (i + 1))), none] [] M Post) : ∀ d m, d = n - (i + 1) - m → m ≤ n - (i + 1) → G mX7_totalOf 20 [some (.ref 72), some (.int (nI 0)), some (.int (nI W)), some (.int (A + psum (msoF M 89 W i) m)), some (.int (nI i)), some (.int (nI (i + 1 + m)))] [] M Post := by
  intro d
  induction d using Nat.strongRecOn with
  | ind d ih =>
    intro m hd hj
    refine blk 7 [(.iload 5, 0, 0, 0), (.aload_n 0, 0, 0, 0), (.getfield 103, 7, 0, 0)] [] (by decide +kernel) rfl (pc' := 26) (ls' := [some (.ref 72), some (.int (nI 0)), some (.int (nI W)), some (.int (A + psum (msoF M 89 W i) m)), some (.int (nI i)), some (.int (nI (i + 1 + m)))]) (st' := [.int (M 72 0), .int (nI (i + 1 + m))]) (M' := M) rfl ⟨trivial, trivial, rfl, trivial⟩ ?_
    refine g_icmp_ge (off := 38) (tgt := 64) (by decide +kernel) (by decide) (fun c1 => ?_) (fun c1 => ?_)
    · have nc1 : n ≤ (i + 1 + m) := (nI_leI (by omega) (by omega)).mp (by simpa only [hn, nI_add, pk_mul, nI_s1, n0_lit] using c1)
      refine blk 7 [(.iinc 4 1, 0, 0, (nI 1)), (.goto (-62), 5, 0, 0)] [] (by decide +kernel) rfl (pc' := 5) (ls' := [some (.ref 72), some (.int (nI 0)), some (.int (nI W)), some (.int (A + psum (msoF M 89 W i) m)), some (.int (nI i + nI 1)), some (.int (nI (i + 1 + m)))]) (st' := []) (M' := M) rfl ⟨trivial, trivial, trivial⟩ ?_
      have e : m = n - (i + 1) := by omega
      subst e
      refine G.sub (ls' := [some (.ref 72), some (.int (nI 0)), some (.int (nI W)), some (.int (A + psum (msoF M 89 W i) (n - (i + 1)))), some (.int (nI (i + 1))), none]) ?_ ⟨rfl, rfl, rfl, congrArg (fun z => some (Value.int z)) rfl, congrArg (fun z => some (Value.int z)) (by simp only [nI_add, nI_s1]), trivial⟩
      exact hp
    · have nc1 : (i + 1 + m) < n := by
        have z : ¬ nI n ≤ nI (i + 1 + m) := by simpa only [hn, nI_add, pk_mul, nI_s1, n0_lit] using c1
        rw [nI_leI (by omega) (by omega)] at z
        omega
      refine blk 7 [(.iload_n 3, 0, 0, 0), (.aload_n 0, 0, 0, 0), (.getfield 59, 7, 22, 0), (.iload 4, 0, 0, 0), (.iaload, 0, 0, 0), (.aload_n 0, 0, 0, 0), (.getfield 59, 7, 22, 0), (.iload 5, 0, 0, 0), (.iaload, 0, 0, 0), (.imul, 0, 0, 0), (.aload_n 0, 0, 0, 0), (.iload_n 1, 0, 0, 0), (.iload 4, 0, 0, 0), (.iload 5, 0, 0, 0), (.iload_n 2, 0, 0, 0)] [i, i + 1 + m] (by decide +kernel) rfl (pc' := 52) (ls' := [some (.ref 72), some (.int (nI 0)), some (.int (nI W)), some (.int (A + psum (msoF M 89 W i) m)), some (.int (nI i)), some (.int (nI (i + 1 + m)))]) (st' := [.int (nI W), .int (nI (i + 1 + m)), .int (nI i), .int (nI 0), .ref 72, .int ((M 88 i) * (M 88 (i + 1 + m))), .int (A + psum (msoF M 89 W i) m)]) (M' := M) rfl ⟨trivial, trivial, rfl, trivial, ⟨rfl, (by show _ < 5; omega)⟩, trivial, rfl, trivial, ⟨rfl, (by show _ < 5; omega)⟩, trivial, trivial, trivial, trivial, trivial, trivial, trivial⟩ ?_
      refine g_callV (s_pt89 M (v := i) (w := i + 1 + m) (W := W) (by omega) (by omega) hW (fun k hk => hc i k (by omega) hk) (fun k hk => hc _ k (by omega) hk)) ok_X7_totalOf_X7_pairTotal (by decide +kernel) rfl (c := 7) rfl (by decide) rfl (Nat.le_of_ble_eq_true rfl) (fun r M' h => ?_) rfl
      obtain ⟨hr, hM⟩ := h
      rw [hr, hM]
      show G _ 55 [some (.ref 72), some (.int (nI 0)), some (.int (nI W)), some (.int (A + psum (msoF M 89 W i) m)), some (.int (nI i)), some (.int (nI (i + 1 + m)))] [.int ((sbF (M 77) (M 72 6) (M 72 7) (rwM M 89 i) (rwM M 89 (i + 1 + m)) W).1), .int ((M 88 i) * (M 88 (i + 1 + m))), .int (A + psum (msoF M 89 W i) m)] M _
      refine blk 7 [(.imul, 0, 0, 0), (.iadd, 0, 0, 0), (.istore_n 3, 0, 0, 0), (.iinc 5 1, 0, 0, (nI 1)), (.goto (-41), 20, 0, 0)] [] (by decide +kernel) rfl (pc' := 20) (ls' := [some (.ref 72), some (.int (nI 0)), some (.int (nI W)), some (.int ((A + psum (msoF M 89 W i) m) + (((M 88 i) * (M 88 (i + 1 + m))) * ((sbF (M 77) (M 72 6) (M 72 7) (rwM M 89 i) (rwM M 89 (i + 1 + m)) W).1)))), some (.int (nI i)), some (.int (nI (i + 1 + m) + nI 1))]) (st' := []) (M' := M) rfl ⟨trivial, trivial, trivial, trivial, trivial, trivial⟩ ?_
      refine G.sub (ls' := [some (.ref 72), some (.int (nI 0)), some (.int (nI W)), some (.int (A + psum (msoF M 89 W i) (m + 1))), some (.int (nI i)), some (.int (nI (i + 1 + (m + 1))))]) ?_ ⟨rfl, rfl, rfl, congrArg (fun z => some (Value.int z)) (by rw [psum, ← Int32.add_assoc]; rfl), rfl, congrArg (fun z => some (Value.int z)) (by rw [nI_add]; congr 1), trivial⟩
      exact ih (d - 1) (by omega) (m + 1) (by omega) (by omega)
theorem l_to89 {M : Mem} {n W : Nat} (hn : M 72 0 = nI n) (hn5 : n ≤ 5) (hW : W ≤ 60) (hc : ∀ a k, a < n → k < W → okc (M 89 (60 * a + k))) : ∀ d i, d = n - i → i ≤ n → G mX7_totalOf 5 [some (.ref 72), some (.int (nI 0)), some (.int (nI W)), some (.int (psum (fun i => psum (msoF M 89 W i) (n - (i + 1))) i)), some (.int (nI i)), none] [] M (Ret (mtot M 89 W n) M) := by
  intro d
  induction d using Nat.strongRecOn with
  | ind d ih =>
    intro i hd hj
    refine blk 7 [(.iload 4, 0, 0, 0), (.aload_n 0, 0, 0, 0), (.getfield 103, 7, 0, 0)] [] (by decide +kernel) rfl (pc' := 11) (ls' := [some (.ref 72), some (.int (nI 0)), some (.int (nI W)), some (.int (psum (fun i => psum (msoF M 89 W i) (n - (i + 1))) i)), some (.int (nI i)), none]) (st' := [.int (M 72 0), .int (nI i)]) (M' := M) rfl ⟨trivial, trivial, rfl, trivial⟩ ?_
    refine g_icmp_ge (off := 59) (tgt := 70) (by decide +kernel) (by decide) (fun c1 => ?_) (fun c1 => ?_)
    · have nc1 : n ≤ i := (nI_leI (by omega) (by omega)).mp (by simpa only [hn, nI_add, pk_mul, nI_s1, n0_lit] using c1)
      refine blk 7 [(.iload_n 3, 0, 0, 0)] [] (by decide +kernel) rfl (pc' := 71) (ls' := [some (.ref 72), some (.int (nI 0)), some (.int (nI W)), some (.int (psum (fun i => psum (msoF M 89 W i) (n - (i + 1))) i)), some (.int (nI i)), none]) (st' := [.int (psum (fun i => psum (msoF M 89 W i) (n - (i + 1))) i)]) (M' := M) rfl ⟨trivial, trivial⟩ ?_
      have e : i = n := by omega
      subst e
      exact g_ireturn (by decide +kernel) rfl rfl ⟨rfl, rfl⟩
    · have nc1 : i < n := by
        have z : ¬ nI n ≤ nI i := by simpa only [hn, nI_add, pk_mul, nI_s1, n0_lit] using c1
        rw [nI_leI (by omega) (by omega)] at z
        omega
      refine blk 7 [(.iload 4, 0, 0, 0), (.iconst 1, 0, 0, (nI 1)), (.iadd, 0, 0, 0), (.istore 5, 0, 0, 0)] [] (by decide +kernel) rfl (pc' := 20) (ls' := [some (.ref 72), some (.int (nI 0)), some (.int (nI W)), some (.int (psum (fun i => psum (msoF M 89 W i) (n - (i + 1))) i)), some (.int (nI i)), some (.int ((nI i) + (nI 1)))]) (st' := []) (M' := M) rfl ⟨trivial, trivial, trivial, trivial, trivial⟩ ?_
      refine G.sub (ls' := [some (.ref 72), some (.int (nI 0)), some (.int (nI W)), some (.int (psum (fun i => psum (msoF M 89 W i) (n - (i + 1))) i + psum (msoF M 89 W i) 0)), some (.int (nI i)), some (.int (nI (i + 1 + 0)))]) ?_ ⟨rfl, rfl, rfl, congrArg (fun z => some (Value.int z)) (Int32.add_zero _).symm, rfl, congrArg (fun z => some (Value.int z)) (nI_add _ _), trivial⟩
      exact l_to289 hn hn5 hW hc (by omega) (ih (d - 1) (by omega) (i + 1) (by omega) (by omega)) _ 0 rfl (by omega)
theorem s_to89 (M : Mem) {n W : Nat} (hn : M 72 0 = nI n) (hn5 : n ≤ 5) (hW : W ≤ 60) (hc : ∀ a k, a < n → k < W → okc (M 89 (60 * a + k))) : Spec mX7_totalOf [.ref 72, .int (nI 0), .int (nI W)] M (Ret (mtot M 89 W n) M) := by
  refine Spec.of (by decide) (by simp [Value.category]) (Nat.le_of_ble_eq_true rfl) ?_
  refine blk 7 [(.iconst 0, 0, 0, (nI 0)), (.istore_n 3, 0, 0, 0), (.iconst 0, 0, 0, (nI 0)), (.istore 4, 0, 0, 0)] [] (by decide +kernel) rfl (pc' := 5) (ls' := [some (.ref 72), some (.int (nI 0)), some (.int (nI W)), some (.int (nI 0)), some (.int (nI 0)), none]) (st' := []) (M' := M) rfl ⟨trivial, trivial, trivial, trivial, trivial⟩ ?_
  exact l_to89 hn hn5 hW hc _ 0 rfl (by omega)
theorem l_to292 {M : Mem} {n W i : Nat} {A : Int32} {Post : Option Value → Mem → Prop} (hn : M 72 0 = nI n) (hn5 : n ≤ 5) (hW : W ≤ 60) (hc : ∀ a k, a < n → k < W → okc (M 92 (60 * a + k))) (hi : i < n) (hp : G mX7_totalOf 5 [some (.ref 72), some (.int (nI 1)), some (.int (nI W)), some (.int (A + psum (msoF M 92 W i) (n - (i + 1)))), some (.int (nI (i + 1))), none] [] M Post) : ∀ d m, d = n - (i + 1) - m → m ≤ n - (i + 1) → G mX7_totalOf 20 [some (.ref 72), some (.int (nI 1)), some (.int (nI W)), some (.int (A + psum (msoF M 92 W i) m)), some (.int (nI i)), some (.int (nI (i + 1 + m)))] [] M Post := by
  intro d
  induction d using Nat.strongRecOn with
  | ind d ih =>
    intro m hd hj
    refine blk 7 [(.iload 5, 0, 0, 0), (.aload_n 0, 0, 0, 0), (.getfield 103, 7, 0, 0)] [] (by decide +kernel) rfl (pc' := 26) (ls' := [some (.ref 72), some (.int (nI 1)), some (.int (nI W)), some (.int (A + psum (msoF M 92 W i) m)), some (.int (nI i)), some (.int (nI (i + 1 + m)))]) (st' := [.int (M 72 0), .int (nI (i + 1 + m))]) (M' := M) rfl ⟨trivial, trivial, rfl, trivial⟩ ?_
    refine g_icmp_ge (off := 38) (tgt := 64) (by decide +kernel) (by decide) (fun c1 => ?_) (fun c1 => ?_)
    · have nc1 : n ≤ (i + 1 + m) := (nI_leI (by omega) (by omega)).mp (by simpa only [hn, nI_add, pk_mul, nI_s1, n0_lit] using c1)
      refine blk 7 [(.iinc 4 1, 0, 0, (nI 1)), (.goto (-62), 5, 0, 0)] [] (by decide +kernel) rfl (pc' := 5) (ls' := [some (.ref 72), some (.int (nI 1)), some (.int (nI W)), some (.int (A + psum (msoF M 92 W i) m)), some (.int (nI i + nI 1)), some (.int (nI (i + 1 + m)))]) (st' := []) (M' := M) rfl ⟨trivial, trivial, trivial⟩ ?_
      have e : m = n - (i + 1) := by omega
      subst e
      refine G.sub (ls' := [some (.ref 72), some (.int (nI 1)), some (.int (nI W)), some (.int (A + psum (msoF M 92 W i) (n - (i + 1)))), some (.int (nI (i + 1))), none]) ?_ ⟨rfl, rfl, rfl, congrArg (fun z => some (Value.int z)) rfl, congrArg (fun z => some (Value.int z)) (by simp only [nI_add, nI_s1]), trivial⟩
      exact hp
    · have nc1 : (i + 1 + m) < n := by
        have z : ¬ nI n ≤ nI (i + 1 + m) := by simpa only [hn, nI_add, pk_mul, nI_s1, n0_lit] using c1
        rw [nI_leI (by omega) (by omega)] at z
        omega
      refine blk 7 [(.iload_n 3, 0, 0, 0), (.aload_n 0, 0, 0, 0), (.getfield 59, 7, 22, 0), (.iload 4, 0, 0, 0), (.iaload, 0, 0, 0), (.aload_n 0, 0, 0, 0), (.getfield 59, 7, 22, 0), (.iload 5, 0, 0, 0), (.iaload, 0, 0, 0), (.imul, 0, 0, 0), (.aload_n 0, 0, 0, 0), (.iload_n 1, 0, 0, 0), (.iload 4, 0, 0, 0), (.iload 5, 0, 0, 0), (.iload_n 2, 0, 0, 0)] [i, i + 1 + m] (by decide +kernel) rfl (pc' := 52) (ls' := [some (.ref 72), some (.int (nI 1)), some (.int (nI W)), some (.int (A + psum (msoF M 92 W i) m)), some (.int (nI i)), some (.int (nI (i + 1 + m)))]) (st' := [.int (nI W), .int (nI (i + 1 + m)), .int (nI i), .int (nI 1), .ref 72, .int ((M 88 i) * (M 88 (i + 1 + m))), .int (A + psum (msoF M 92 W i) m)]) (M' := M) rfl ⟨trivial, trivial, rfl, trivial, ⟨rfl, (by show _ < 5; omega)⟩, trivial, rfl, trivial, ⟨rfl, (by show _ < 5; omega)⟩, trivial, trivial, trivial, trivial, trivial, trivial, trivial⟩ ?_
      refine g_callV (s_pt92 M (v := i) (w := i + 1 + m) (W := W) (by omega) (by omega) hW (fun k hk => hc i k (by omega) hk) (fun k hk => hc _ k (by omega) hk)) ok_X7_totalOf_X7_pairTotal (by decide +kernel) rfl (c := 7) rfl (by decide) rfl (Nat.le_of_ble_eq_true rfl) (fun r M' h => ?_) rfl
      obtain ⟨hr, hM⟩ := h
      rw [hr, hM]
      show G _ 55 [some (.ref 72), some (.int (nI 1)), some (.int (nI W)), some (.int (A + psum (msoF M 92 W i) m)), some (.int (nI i)), some (.int (nI (i + 1 + m)))] [.int ((sbF (M 77) (M 72 6) (M 72 7) (rwM M 92 i) (rwM M 92 (i + 1 + m)) W).1), .int ((M 88 i) * (M 88 (i + 1 + m))), .int (A + psum (msoF M 92 W i) m)] M _
      refine blk 7 [(.imul, 0, 0, 0), (.iadd, 0, 0, 0), (.istore_n 3, 0, 0, 0), (.iinc 5 1, 0, 0, (nI 1)), (.goto (-41), 20, 0, 0)] [] (by decide +kernel) rfl (pc' := 20) (ls' := [some (.ref 72), some (.int (nI 1)), some (.int (nI W)), some (.int ((A + psum (msoF M 92 W i) m) + (((M 88 i) * (M 88 (i + 1 + m))) * ((sbF (M 77) (M 72 6) (M 72 7) (rwM M 92 i) (rwM M 92 (i + 1 + m)) W).1)))), some (.int (nI i)), some (.int (nI (i + 1 + m) + nI 1))]) (st' := []) (M' := M) rfl ⟨trivial, trivial, trivial, trivial, trivial, trivial⟩ ?_
      refine G.sub (ls' := [some (.ref 72), some (.int (nI 1)), some (.int (nI W)), some (.int (A + psum (msoF M 92 W i) (m + 1))), some (.int (nI i)), some (.int (nI (i + 1 + (m + 1))))]) ?_ ⟨rfl, rfl, rfl, congrArg (fun z => some (Value.int z)) (by rw [psum, ← Int32.add_assoc]; rfl), rfl, congrArg (fun z => some (Value.int z)) (by rw [nI_add]; congr 1), trivial⟩
      exact ih (d - 1) (by omega) (m + 1) (by omega) (by omega)
theorem l_to92 {M : Mem} {n W : Nat} (hn : M 72 0 = nI n) (hn5 : n ≤ 5) (hW : W ≤ 60) (hc : ∀ a k, a < n → k < W → okc (M 92 (60 * a + k))) : ∀ d i, d = n - i → i ≤ n → G mX7_totalOf 5 [some (.ref 72), some (.int (nI 1)), some (.int (nI W)), some (.int (psum (fun i => psum (msoF M 92 W i) (n - (i + 1))) i)), some (.int (nI i)), none] [] M (Ret (mtot M 92 W n) M) := by
  intro d
  induction d using Nat.strongRecOn with
  | ind d ih =>
    intro i hd hj
    refine blk 7 [(.iload 4, 0, 0, 0), (.aload_n 0, 0, 0, 0), (.getfield 103, 7, 0, 0)] [] (by decide +kernel) rfl (pc' := 11) (ls' := [some (.ref 72), some (.int (nI 1)), some (.int (nI W)), some (.int (psum (fun i => psum (msoF M 92 W i) (n - (i + 1))) i)), some (.int (nI i)), none]) (st' := [.int (M 72 0), .int (nI i)]) (M' := M) rfl ⟨trivial, trivial, rfl, trivial⟩ ?_
    refine g_icmp_ge (off := 59) (tgt := 70) (by decide +kernel) (by decide) (fun c1 => ?_) (fun c1 => ?_)
    · have nc1 : n ≤ i := (nI_leI (by omega) (by omega)).mp (by simpa only [hn, nI_add, pk_mul, nI_s1, n0_lit] using c1)
      refine blk 7 [(.iload_n 3, 0, 0, 0)] [] (by decide +kernel) rfl (pc' := 71) (ls' := [some (.ref 72), some (.int (nI 1)), some (.int (nI W)), some (.int (psum (fun i => psum (msoF M 92 W i) (n - (i + 1))) i)), some (.int (nI i)), none]) (st' := [.int (psum (fun i => psum (msoF M 92 W i) (n - (i + 1))) i)]) (M' := M) rfl ⟨trivial, trivial⟩ ?_
      have e : i = n := by omega
      subst e
      exact g_ireturn (by decide +kernel) rfl rfl ⟨rfl, rfl⟩
    · have nc1 : i < n := by
        have z : ¬ nI n ≤ nI i := by simpa only [hn, nI_add, pk_mul, nI_s1, n0_lit] using c1
        rw [nI_leI (by omega) (by omega)] at z
        omega
      refine blk 7 [(.iload 4, 0, 0, 0), (.iconst 1, 0, 0, (nI 1)), (.iadd, 0, 0, 0), (.istore 5, 0, 0, 0)] [] (by decide +kernel) rfl (pc' := 20) (ls' := [some (.ref 72), some (.int (nI 1)), some (.int (nI W)), some (.int (psum (fun i => psum (msoF M 92 W i) (n - (i + 1))) i)), some (.int (nI i)), some (.int ((nI i) + (nI 1)))]) (st' := []) (M' := M) rfl ⟨trivial, trivial, trivial, trivial, trivial⟩ ?_
      refine G.sub (ls' := [some (.ref 72), some (.int (nI 1)), some (.int (nI W)), some (.int (psum (fun i => psum (msoF M 92 W i) (n - (i + 1))) i + psum (msoF M 92 W i) 0)), some (.int (nI i)), some (.int (nI (i + 1 + 0)))]) ?_ ⟨rfl, rfl, rfl, congrArg (fun z => some (Value.int z)) (Int32.add_zero _).symm, rfl, congrArg (fun z => some (Value.int z)) (nI_add _ _), trivial⟩
      exact l_to292 hn hn5 hW hc (by omega) (ih (d - 1) (by omega) (i + 1) (by omega) (by omega)) _ 0 rfl (by omega)
theorem s_to92 (M : Mem) {n W : Nat} (hn : M 72 0 = nI n) (hn5 : n ≤ 5) (hW : W ≤ 60) (hc : ∀ a k, a < n → k < W → okc (M 92 (60 * a + k))) : Spec mX7_totalOf [.ref 72, .int (nI 1), .int (nI W)] M (Ret (mtot M 92 W n) M) := by
  refine Spec.of (by decide) (by simp [Value.category]) (Nat.le_of_ble_eq_true rfl) ?_
  refine blk 7 [(.iconst 0, 0, 0, (nI 0)), (.istore_n 3, 0, 0, 0), (.iconst 0, 0, 0, (nI 0)), (.istore 4, 0, 0, 0)] [] (by decide +kernel) rfl (pc' := 5) (ls' := [some (.ref 72), some (.int (nI 1)), some (.int (nI W)), some (.int (nI 0)), some (.int (nI 0)), none]) (st' := []) (M' := M) rfl ⟨trivial, trivial, trivial, trivial, trivial⟩ ?_
  exact l_to92 hn hn5 hW hc _ 0 rfl (by omega)
theorem s_mtotal1 (M : Mem) {n W : Nat} (hl : ¬ M 72 11 = 0) (hn : M 72 0 = nI n) (hn5 : n ≤ 5) (hW : M 72 23 = nI W) (hW6 : W ≤ 60) (hc : ∀ a k, a < n → k < W → okc (M 89 (60 * a + k))) : Spec mX7_total [.ref 72] M (Ret (mtot M 89 W n) M) := by
  refine Spec.of (by decide) (by simp [Value.category]) (Nat.le_of_ble_eq_true rfl) ?_
  refine blk 7 [(.aload_n 0, 0, 0, 0), (.getfield 89, 7, 11, 0)] [] (by decide +kernel) rfl (pc' := 4) (ls' := [some (.ref 72)]) (st' := [.int (M 72 11)]) (M' := M) rfl ⟨trivial, rfl, trivial⟩ ?_
  refine g_if_eq (off := 15) (tgt := 19) (by decide +kernel) (by decide) (fun c1 => ?_) (fun c1 => ?_)
  · refine blk 7 [(.iconst 0, 0, 0, (nI 0))] [] (by decide +kernel) rfl (pc' := 20) (ls' := [some (.ref 72)]) (st' := [.int (nI 0)]) (M' := M) rfl ⟨trivial, trivial⟩ ?_
    exact absurd c1 hl
  · refine blk 7 [(.aload_n 0, 0, 0, 0), (.iconst 0, 0, 0, (nI 0)), (.aload_n 0, 0, 0, 0), (.getfield 93, 7, 23, 0)] [] (by decide +kernel) rfl (pc' := 13) (ls' := [some (.ref 72)]) (st' := [.int (M 72 23), .int (nI 0), .ref 72]) (M' := M) rfl ⟨trivial, trivial, trivial, rfl, trivial⟩ ?_
    rw [show M 72 23 = nI W from hW]
    refine g_callV (s_to89 M hn hn5 hW6 hc) ok_X7_total_X7_totalOf (by decide +kernel) rfl (c := 7) rfl (by decide) rfl (Nat.le_of_ble_eq_true rfl) (fun r M' h => ?_) rfl
    obtain ⟨hr, hM⟩ := h
    rw [hr, hM]
    show G _ 16 [some (.ref 72)] [.int (mtot M 89 W n)] M _
    refine blk 7 [(.goto (4), 20, 0, 0)] [] (by decide +kernel) rfl (pc' := 20) (ls' := [some (.ref 72)]) (st' := [.int (mtot M 89 W n)]) (M' := M) rfl ⟨trivial, trivial⟩ ?_
    exact g_ireturn (by decide +kernel) rfl rfl ⟨rfl, rfl⟩
theorem s_mtotal0 (M : Mem) (hl : M 72 11 = 0) : Spec mX7_total [.ref 72] M (Ret 0 M) := by
  refine Spec.of (by decide) (by simp [Value.category]) (Nat.le_of_ble_eq_true rfl) ?_
  refine blk 7 [(.aload_n 0, 0, 0, 0), (.getfield 89, 7, 11, 0)] [] (by decide +kernel) rfl (pc' := 4) (ls' := [some (.ref 72)]) (st' := [.int (M 72 11)]) (M' := M) rfl ⟨trivial, rfl, trivial⟩ ?_
  refine g_if_eq (off := 15) (tgt := 19) (by decide +kernel) (by decide) (fun c1 => ?_) (fun c1 => ?_)
  · refine blk 7 [(.iconst 0, 0, 0, (nI 0))] [] (by decide +kernel) rfl (pc' := 20) (ls' := [some (.ref 72)]) (st' := [.int (nI 0)]) (M' := M) rfl ⟨trivial, trivial⟩ ?_
    exact g_ireturn (by decide +kernel) rfl rfl ⟨rfl, rfl⟩
  · exact absurd hl c1
def mhF (M : Mem) (k i : Nat) : Nat → Bool := fun a => decide (a ≠ i ∧ M 89 (60 * a + k) ≠ -1)
theorem bI_nar (b : Bool) : narrow .boolean (.int (bI b)) = .int (bI b) := by cases b <;> decide +kernel
theorem l_mhas {M : Mem} {n k i : Nat} (hn : M 72 0 = nI n) (hn5 : n ≤ 5) (hk : k < 60) (hi : i < 5) : ∀ d w, d = n - w → w ≤ n → G mX7_hasLetter 5 [some (.ref 72), some (.int (nI k)), some (.int (nI i)), some (.int (bI (anyB (mhF M k i) w))), some (.int (nI w))] [] M (Ret (bI (anyB (mhF M k i) n)) M) := by
  intro d
  induction d using Nat.strongRecOn with
  | ind d ih =>
    intro w hd hw
    refine blk 7 [(.iload 4, 0, 0, 0), (.aload_n 0, 0, 0, 0), (.getfield 103, 7, 0, 0)] [] (by decide +kernel) rfl (pc' := 11) (ls' := [some (.ref 72), some (.int (nI k)), some (.int (nI i)), some (.int (bI (anyB (mhF M k i) w))), some (.int (nI w))]) (st' := [.int (M 72 0), .int (nI w)]) (M' := M) rfl ⟨trivial, trivial, rfl, trivial⟩ ?_
    refine g_icmp_ge (off := 41) (tgt := 52) (by decide +kernel) (by decide) (fun c1 => ?_) (fun c1 => ?_)
    · have nc1 : n ≤ w := (nI_leI (by omega) (by omega)).mp (by simpa only [hn, nI_add, pk_mul, nI_s1, n0_lit] using c1)
      refine blk 7 [(.iload_n 3, 0, 0, 0)] [] (by decide +kernel) rfl (pc' := 53) (ls' := [some (.ref 72), some (.int (nI k)), some (.int (nI i)), some (.int (bI (anyB (mhF M k i) w))), some (.int (nI w))]) (st' := [.int (bI (anyB (mhF M k i) w))]) (M' := M) rfl ⟨trivial, trivial⟩ ?_
      have e : w = n := by omega
      subst e
      exact g_ireturn (by decide +kernel) rfl (bI_nar _) ⟨rfl, rfl⟩
    · have nc1 : w < n := by
        have z : ¬ nI n ≤ nI w := by simpa only [hn, nI_add, pk_mul, nI_s1, n0_lit] using c1
        rw [nI_leI (by omega) (by omega)] at z
        omega
      refine blk 7 [(.iload_n 3, 0, 0, 0)] [] (by decide +kernel) rfl (pc' := 15) (ls' := [some (.ref 72), some (.int (nI k)), some (.int (nI i)), some (.int (bI (anyB (mhF M k i) w))), some (.int (nI w))]) (st' := [.int (bI (anyB (mhF M k i) w))]) (M' := M) rfl ⟨trivial, trivial⟩ ?_
      refine g_if_ne (off := 25) (tgt := 40) (by decide +kernel) (by decide) (fun c2 => ?_) (fun c2 => ?_)
      · refine blk 7 [(.iconst 1, 0, 0, (nI 1)), (.goto (4), 45, 0, 0), (.istore_n 3, 0, 0, 0), (.iinc 4 1, 0, 0, (nI 1)), (.goto (-44), 5, 0, 0)] [] (by decide +kernel) rfl (pc' := 5) (ls' := [some (.ref 72), some (.int (nI k)), some (.int (nI i)), some (.int (nI 1)), some (.int (nI w + nI 1))]) (st' := []) (M' := M) rfl ⟨trivial, trivial, trivial, trivial, trivial, trivial⟩ ?_
        have e : nI 1 = bI (anyB (mhF M k i) (w + 1)) := by rw [anyB, bI_ne c2]; rfl
        refine G.sub (ls' := [some (.ref 72), some (.int (nI k)), some (.int (nI i)), some (.int (bI (anyB (mhF M k i) (w + 1)))), some (.int (nI (w + 1)))]) ?_ ⟨rfl, rfl, rfl, congrArg (fun z => some (Value.int z)) e, congrArg (fun z => some (Value.int z)) (by simp only [nI_add, nI_s1]), trivial⟩
        exact ih (d - 1) (by omega) (w + 1) (by omega) (by omega)
      · refine blk 7 [(.iload 4, 0, 0, 0), (.iload_n 2, 0, 0, 0)] [] (by decide +kernel) rfl (pc' := 21) (ls' := [some (.ref 72), some (.int (nI k)), some (.int (nI i)), some (.int (bI (anyB (mhF M k i) w))), some (.int (nI w))]) (st' := [.int (nI i), .int (nI w)]) (M' := M) rfl ⟨trivial, trivial, trivial⟩ ?_
        refine g_icmp_eq (off := 23) (tgt := 44) (by decide +kernel) (by decide) (fun c3 => ?_) (fun c3 => ?_)
        · have nc3 : w = i := (nI_eq (by omega) (by omega)).mp (by simpa only [hn, nI_add, pk_mul, nI_s1, n0_lit] using c3)
          refine blk 7 [(.iconst 0, 0, 0, (nI 0)), (.istore_n 3, 0, 0, 0), (.iinc 4 1, 0, 0, (nI 1)), (.goto (-44), 5, 0, 0)] [] (by decide +kernel) rfl (pc' := 5) (ls' := [some (.ref 72), some (.int (nI k)), some (.int (nI i)), some (.int (nI 0)), some (.int (nI w + nI 1))]) (st' := []) (M' := M) rfl ⟨trivial, trivial, trivial, trivial, trivial⟩ ?_
          have e : nI 0 = bI (anyB (mhF M k i) (w + 1)) := by rw [anyB, bI_eq c2, show mhF M k i w = false from decide_eq_false (fun z => z.1 nc3)]; rfl
          refine G.sub (ls' := [some (.ref 72), some (.int (nI k)), some (.int (nI i)), some (.int (bI (anyB (mhF M k i) (w + 1)))), some (.int (nI (w + 1)))]) ?_ ⟨rfl, rfl, rfl, congrArg (fun z => some (Value.int z)) e, congrArg (fun z => some (Value.int z)) (by simp only [nI_add, nI_s1]), trivial⟩
          exact ih (d - 1) (by omega) (w + 1) (by omega) (by omega)
        · have nc3 : w ≠ i := by
            have z : ¬ nI w = nI i := by simpa only [hn, nI_add, pk_mul, nI_s1, n0_lit] using c3
            rw [nI_eq (by omega) (by omega)] at z
            omega
          refine blk 7 [(.aload_n 0, 0, 0, 0), (.getfield 62, 7, 24, 0), (.bipush 60, 0, 0, (nI 60)), (.iload 4, 0, 0, 0), (.imul, 0, 0, 0), (.iload_n 1, 0, 0, 0), (.iadd, 0, 0, 0), (.iaload, 0, 0, 0), (.iconst (-1), 0, 0, (-1))] [60 * w + k] (by decide +kernel) rfl (pc' := 37) (ls' := [some (.ref 72), some (.int (nI k)), some (.int (nI i)), some (.int (bI (anyB (mhF M k i) w))), some (.int (nI w))]) (st' := [.int (-1), .int (M 89 (60 * w + k))]) (M' := M) rfl ⟨trivial, rfl, trivial, trivial, trivial, trivial, trivial, ⟨(by simp only [hn, nI_add, pk_mul, nI_s1, Nat.reduceAdd, Nat.reduceMul]), (by show _ < 300; omega)⟩, trivial, trivial⟩ ?_
          refine g_icmp_eq (off := 7) (tgt := 44) (by decide +kernel) (by decide) (fun c4 => ?_) (fun c4 => ?_)
          · refine blk 7 [(.iconst 0, 0, 0, (nI 0)), (.istore_n 3, 0, 0, 0), (.iinc 4 1, 0, 0, (nI 1)), (.goto (-44), 5, 0, 0)] [] (by decide +kernel) rfl (pc' := 5) (ls' := [some (.ref 72), some (.int (nI k)), some (.int (nI i)), some (.int (nI 0)), some (.int (nI w + nI 1))]) (st' := []) (M' := M) rfl ⟨trivial, trivial, trivial, trivial, trivial⟩ ?_
            have e : nI 0 = bI (anyB (mhF M k i) (w + 1)) := by rw [anyB, bI_eq c2, show mhF M k i w = false from decide_eq_false (fun z => z.2 c4)]; rfl
            refine G.sub (ls' := [some (.ref 72), some (.int (nI k)), some (.int (nI i)), some (.int (bI (anyB (mhF M k i) (w + 1)))), some (.int (nI (w + 1)))]) ?_ ⟨rfl, rfl, rfl, congrArg (fun z => some (Value.int z)) e, congrArg (fun z => some (Value.int z)) (by simp only [nI_add, nI_s1]), trivial⟩
            exact ih (d - 1) (by omega) (w + 1) (by omega) (by omega)
          · refine blk 7 [(.iconst 1, 0, 0, (nI 1)), (.goto (4), 45, 0, 0), (.istore_n 3, 0, 0, 0), (.iinc 4 1, 0, 0, (nI 1)), (.goto (-44), 5, 0, 0)] [] (by decide +kernel) rfl (pc' := 5) (ls' := [some (.ref 72), some (.int (nI k)), some (.int (nI i)), some (.int (nI 1)), some (.int (nI w + nI 1))]) (st' := []) (M' := M) rfl ⟨trivial, trivial, trivial, trivial, trivial, trivial⟩ ?_
            have e : nI 1 = bI (anyB (mhF M k i) (w + 1)) := by rw [anyB, show mhF M k i w = true from decide_eq_true ⟨nc3, c4⟩, Bool.or_true]; rfl
            refine G.sub (ls' := [some (.ref 72), some (.int (nI k)), some (.int (nI i)), some (.int (bI (anyB (mhF M k i) (w + 1)))), some (.int (nI (w + 1)))]) ?_ ⟨rfl, rfl, rfl, congrArg (fun z => some (Value.int z)) e, congrArg (fun z => some (Value.int z)) (by simp only [nI_add, nI_s1]), trivial⟩
            exact ih (d - 1) (by omega) (w + 1) (by omega) (by omega)
theorem s_mhas (M : Mem) {n k i : Nat} (hn : M 72 0 = nI n) (hn5 : n ≤ 5) (hk : k < 60) (hi : i < 5) : Spec mX7_hasLetter [.ref 72, .int (nI k), .int (nI i)] M (Ret (bI (anyB (mhF M k i) n)) M) := by
  refine Spec.of (by decide) (by simp [Value.category]) (Nat.le_of_ble_eq_true rfl) ?_
  refine blk 7 [(.iconst 0, 0, 0, (nI 0)), (.istore_n 3, 0, 0, 0), (.iconst 0, 0, 0, (nI 0)), (.istore 4, 0, 0, 0)] [] (by decide +kernel) rfl (pc' := 5) (ls' := [some (.ref 72), some (.int (nI k)), some (.int (nI i)), some (.int (nI 0)), some (.int (nI 0))]) (st' := []) (M' := M) rfl ⟨trivial, trivial, trivial, trivial, trivial⟩ ?_
  exact l_mhas hn hn5 hk hi _ 0 rfl (by omega)
