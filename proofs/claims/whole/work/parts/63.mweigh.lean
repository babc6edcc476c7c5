/-! the reference's weigh, takeP, takeQ -/
theorem hist_gap {n : Nat} {h : Hist} (hn : n ≤ 5) (hl : h.length < n) (hh : okH n h) {x w : Nat} (hx : x < n + h.length) (hw : w < 5) (hin : ¬ hb (nI (mskF n h x)) w = 0) (hp : ¬ parF n h x = 0) : ¬ hb (nI (mskF n h (parF n h x))) w = 0 ∧ ∀ y, x < y → y < parF n h x → hb (nI (mskF n h y)) w = 0 := by
  have := hist_all (fun n h => allN (n + h.length) fun x => allN 5 fun w => decide ((mskF n h x).testBit w = true → ¬ parF n h x = 0 → (mskF n h (parF n h x)).testBit w = true) && allN (n + h.length) fun y => decide ((mskF n h x).testBit w = true → x < y → y < parF n h x → (mskF n h y).testBit w = false)) (by decide +kernel) hn hl hh
  have := allN_get (allN_get this hx) hw
  rw [Bool.and_eq_true] at this
  have hpp := (hist_par hn hl hh hx).resolve_left hp
  have sx := (hist_small hn hl hh hx).2.2
  have sp := (hist_small hn hl hh (a := parF n h x) (by omega)).2.2
  have tb := (hb_nI sx hw).mp hin
  refine ⟨(hb_nI sp hw).mpr (of_decide_eq_true this.1 tb hp), fun y h1 h2 => ?_⟩
  have sy := (hist_small hn hl hh (a := y) (by omega)).2.2
  have e := of_decide_eq_true (allN_get this.2 (show y < n + h.length by omega)) tb h1 h2
  refine Decidable.not_not.mp (fun z => ?_)
  have := (hb_nI sy hw).mp z
  rw [e] at this
  cases this
theorem hist_below {n : Nat} {h : Hist} (hn : n ≤ 5) (hl : h.length < n) (hh : okH n h) {w y : Nat} (hw : w < n) (hy : y < w) : hb (nI (mskF n h y)) w = 0 := by
  have e := (hist_leaf hn hl hh (show y < n by omega)).1
  rw [e, ← bit_nI (by omega)]
  refine Decidable.not_not.mp (fun z => ?_)
  have := (hb_bit_ne (by omega) (by omega)).mp z
  omega
theorem hist_self {n : Nat} {h : Hist} (hn : n ≤ 5) (hl : h.length < n) (hh : okH n h) {w : Nat} (hw : w < n) : ¬ hb (nI (mskF n h w)) w = 0 := by
  rw [(hist_leaf hn hl hh hw).1, ← bit_nI (by omega)]
  exact (hb_bit_ne (by omega) (by omega)).mpr rfl
theorem psum_gap {f : Nat → Int32} {a b : Nat} (hab : a ≤ b) (h : ∀ y, a ≤ y → y < b → f y = 0) : psum f b = psum f a := by
  obtain ⟨d, rfl⟩ : ∃ d, b = a + d := ⟨b - a, by omega⟩
  clear hab
  induction d with
  | zero => rfl
  | succ d ih => rw [show a + (d + 1) = a + d + 1 from rfl, psum, ih (fun y h1 h2 => h y h1 (by omega)), h (a + d) (by omega) (by omega), Int32.add_zero]
theorem l_mwg2 {D : Nat → Nat → Int32} {sp : Bool} {M B : Mem} {n w : Nat} {h : Hist} {Post : Option Value → Mem → Prop} (hn5 : n ≤ 5) (hl : h.length + 1 = n) (hh : okH n h) (hT : mT D sp n h M) (hw : w < n) (hwg : ¬ M 72 10 = 0) (hsp : sp = false) (hp : ∀ N, N 88 w = nI 1 + psum (clH D sp n h w) (2 * n - 2) → (∀ a, a ≠ w → N 88 a = B 88 a) → (∀ z, z ≠ 88 → N z = M z) → G mX7_weigh 90 [some (.ref 72), some (.int (nI w)), none] [] N Post) : ∀ d x N, d = 2 * n - 2 - x → x ≤ 2 * n - 2 → ¬ hb (nI (mskF n h x)) w = 0 → N 88 w = nI 1 + psum (clH D sp n h w) x → (∀ a, a ≠ w → N 88 a = B 88 a) → (∀ z, z ≠ 88 → N z = M z) → G mX7_weigh 19 [some (.ref 72), some (.int (nI w)), some (.int (nI x))] [] N Post := by
  intro d
  induction d using Nat.strongRecOn with
  | ind d ih =>
    intro x N hd hx hin jx jo j2
    have hTN : mT D sp n h N := mT_fr (by rw [j2 72 (by decide)]) (by rw [j2 72 (by decide)]) (fun z hz => j2 z (by omega)) hT
    have hwgN : ¬ N 72 10 = 0 := by rw [j2 72 (by decide)]; exact hwg
    have hspN : N 72 9 = 0 := hTN.2.1.mpr hsp
    refine blk 7 [(.aload_n 0, 0, 0, 0), (.getfield 115, 7, 10, 0)] [] (by decide +kernel) rfl (pc' := 23) (ls' := [some (.ref 72), some (.int (nI w)), some (.int (nI x))]) (st' := [.int (N 72 10)]) (M' := N) rfl ⟨trivial, rfl, trivial⟩ ?_
    refine g_if_eq (off := 67) (tgt := 90) (by decide +kernel) (by decide) (fun c1 => ?_) (fun c1 => ?_)
    · first
        | exact absurd (by assumption) hwgN
        | exact absurd hspN (by assumption)
        | (have hx0 : x = 2 * n - 2 := by
             have hpz := (mT_open hn5 (show h.length < n by omega) hh hTN (a := x) (by omega)).mp (by assumption)
             rcases Nat.lt_or_ge x (2 * n - 2) with z | z
             · exact absurd hpz ((hist_top hn5 hl hh).2 x z)
             · omega
           subst hx0
           refine G.sub (ls' := [some (.ref 72), some (.int (nI w)), none]) ?_ ⟨rfl, rfl, trivial⟩
           exact hp N jx jo j2)
    · refine blk 7 [(.aload_n 0, 0, 0, 0), (.getfield 112, 7, 9, 0)] [] (by decide +kernel) rfl (pc' := 30) (ls' := [some (.ref 72), some (.int (nI w)), some (.int (nI x))]) (st' := [.int (N 72 9)]) (M' := N) rfl ⟨trivial, rfl, trivial⟩ ?_
      refine g_if_ne (off := 60) (tgt := 90) (by decide +kernel) (by decide) (fun c2 => ?_) (fun c2 => ?_)
      · first
          | exact absurd (by assumption) hwgN
          | exact absurd hspN (by assumption)
          | (have hx0 : x = 2 * n - 2 := by
               have hpz := (mT_open hn5 (show h.length < n by omega) hh hTN (a := x) (by omega)).mp (by assumption)
               rcases Nat.lt_or_ge x (2 * n - 2) with z | z
               · exact absurd hpz ((hist_top hn5 hl hh).2 x z)
               · omega
             subst hx0
             refine G.sub (ls' := [some (.ref 72), some (.int (nI w)), none]) ?_ ⟨rfl, rfl, trivial⟩
             exact hp N jx jo j2)
      · refine blk 7 [(.aload_n 0, 0, 0, 0), (.getfield 35, 7, 14, 0), (.iload_n 2, 0, 0, 0), (.iaload, 0, 0, 0)] [x] (by decide +kernel) rfl (pc' := 39) (ls' := [some (.ref 72), some (.int (nI w)), some (.int (nI x))]) (st' := [.int (N 80 x)]) (M' := N) rfl ⟨trivial, rfl, trivial, ⟨rfl, (by show _ < 9; omega)⟩, trivial⟩ ?_
        refine g_if_lt (off := 51) (tgt := 90) (by decide +kernel) (by decide) (fun c3 => ?_) (fun c3 => ?_)
        · first
            | exact absurd (by assumption) hwgN
            | exact absurd hspN (by assumption)
            | (have hx0 : x = 2 * n - 2 := by
                 have hpz := (mT_open hn5 (show h.length < n by omega) hh hTN (a := x) (by omega)).mp (by assumption)
                 rcases Nat.lt_or_ge x (2 * n - 2) with z | z
                 · exact absurd hpz ((hist_top hn5 hl hh).2 x z)
                 · omega
               subst hx0
               refine G.sub (ls' := [some (.ref 72), some (.int (nI w)), none]) ?_ ⟨rfl, rfl, trivial⟩
               exact hp N jx jo j2)
        · have hp0 : ¬ parF n h x = 0 := fun z => absurd ((mT_open hn5 (by omega) hh hTN (by omega)).mpr z) (by assumption)
          have hpp := (hist_par hn5 (show h.length < n by omega) hh (a := x) (by omega)).resolve_left hp0
          have hpx : N 80 x = nI (parF n h x) := by rw [(hTN.2.2.1 x (by omega)).2]; exact if_neg hp0
          have hcnt : psum (fun t => hb (N 82 x) t) 5 = nI (sizF n h x) := by rw [(hTN.2.2.1 x (by omega)).1]; exact siz_count hn5 (by omega) hh (by omega)
          have hsz := hist_small hn5 (show h.length < n by omega) hh (a := x) (by omega)
          have hcz : ¬ nI (sizF n h x) = 0 := fun z => absurd ((nI_eq (by omega) (by omega)).mp (z.trans nI_0.symm)) (by omega)
          refine blk 7 [(.aload_n 0, 0, 0, 0), (.getfield 59, 7, 22, 0), (.iload_n 1, 0, 0, 0), (.dup2, 0, 0, 0), (.iaload, 0, 0, 0), (.aload_n 0, 0, 0, 0), (.getfield 50, 7, 19, 0), (.aload_n 0, 0, 0, 0), (.getfield 35, 7, 14, 0), (.iload_n 2, 0, 0, 0), (.iaload, 0, 0, 0), (.iaload, 0, 0, 0), (.aload_n 0, 0, 0, 0), (.getfield 50, 7, 19, 0), (.iload_n 2, 0, 0, 0), (.iaload, 0, 0, 0), (.isub, 0, 0, 0), (.aload_n 0, 0, 0, 0), (.aload_n 0, 0, 0, 0), (.getfield 41, 7, 16, 0), (.iload_n 2, 0, 0, 0), (.iaload, 0, 0, 0)] [w, x, parF n h x, x, x] (by decide +kernel) rfl (pc' := 74) (ls' := [some (.ref 72), some (.int (nI w)), some (.int (nI x))]) (st' := [.int (N 82 x), .ref 72, .int ((N 85 (parF n h x)) - (N 85 x)), .int (N 88 w), .int (nI w), .ref 88]) (M' := N) rfl ⟨trivial, rfl, trivial, ⟨rfl, rfl⟩, ⟨rfl, (by show _ < 5; omega)⟩, trivial, rfl, trivial, rfl, trivial, ⟨rfl, (by show _ < 9; omega)⟩, ⟨hpx, (by show _ < 9; omega)⟩, trivial, rfl, trivial, ⟨rfl, (by show _ < 9; omega)⟩, trivial, trivial, trivial, rfl, trivial, ⟨rfl, (by show _ < 9; omega)⟩, trivial⟩ ?_
          refine g_callV (s_count N (N 82 x)) ok_X7_weigh_X7_countOf (by decide +kernel) rfl (c := 7) rfl (by decide) rfl (Nat.le_of_ble_eq_true rfl) (fun r M' h => ?_) rfl
          obtain ⟨hr, hM⟩ := h
          rw [hr, hM]
          show G _ 77 [some (.ref 72), some (.int (nI w)), some (.int (nI x))] [.int (psum (fun t => hb (N 82 x) t) 5), .int ((N 85 (parF n h x)) - (N 85 x)), .int (N 88 w), .int (nI w), .ref 88] N _
          rw [hcnt]
          show G _ 77 [some (.ref 72), some (.int (nI w)), some (.int (nI x))] [.int (nI (sizF n h x)), .int ((N 85 (parF n h x)) - (N 85 x)), .int (N 88 w), .int (nI w), .ref 88] N _
          refine blk 7 [(.idiv, 0, 0, 0), (.iadd, 0, 0, 0), (.iastore, 0, 0, 0), (.aload_n 0, 0, 0, 0), (.getfield 35, 7, 14, 0), (.iload_n 2, 0, 0, 0), (.iaload, 0, 0, 0), (.istore_n 2, 0, 0, 0), (.goto (-68), 19, 0, 0)] [w, x] (by decide +kernel) rfl (pc' := 19) (ls' := [some (.ref 72), some (.int (nI w)), some (.int (N 80 x))]) (st' := []) (M' := stm N 88 w ((N 88 w) + (((N 85 (parF n h x)) - (N 85 x)) / (nI (sizF n h x))))) rfl ⟨hcz, trivial, ⟨rfl, (by show _ < 5; omega), by decide⟩, trivial, rfl, trivial, ⟨rfl, (by show _ < 9; omega)⟩, trivial, trivial, trivial⟩ ?_
          have hgap := hist_gap hn5 (show h.length < n by omega) hh (x := x) (w := w) (by omega) (by omega) hin hp0
          have e : (N 88 w) + (((N 85 (parF n h x)) - (N 85 x)) / (nI (sizF n h x))) = nI 1 + psum (clH D sp n h w) (parF n h x) := by
            rw [psum_gap (f := clH D sp n h w) (a := x + 1) (b := parF n h x) (by omega) (fun y h1 h2 => by unfold clH; rw [if_pos (hgap.2 y (by omega) h2)]; exact nI_0), psum, jx, Int32.add_assoc]
            congr 2
            unfold clH
            rw [if_neg hin, hTN.2.2.2.2.1 hsp _ (by omega), hTN.2.2.2.2.1 hsp _ (by omega)]
          refine G.sub (ls' := [some (.ref 72), some (.int (nI w)), some (.int (nI (parF n h x)))]) ?_ ⟨rfl, rfl, congrArg (fun z => some (Value.int z)) hpx, trivial⟩
          refine ih (d - (parF n h x - x)) (by omega) (parF n h x) _ (by omega) (by omega) hgap.1 (by rw [stm_self]; exact e) (fun a ha => by rw [stm_off ha]; exact jo a ha) (fun z hz => by rw [stm_ne hz]; exact j2 z hz)
theorem l_mwg3 {N : Mem} {w : Nat} {Post : Option Value → Mem → Prop} (hw : w < 5) (hno : ¬ (¬ N 72 10 = 0 ∧ N 72 9 = 0)) (hp : G mX7_weigh 90 [some (.ref 72), some (.int (nI w)), none] [] N Post) : G mX7_weigh 19 [some (.ref 72), some (.int (nI w)), some (.int (nI w))] [] N Post := by
  refine blk 7 [(.aload_n 0, 0, 0, 0), (.getfield 115, 7, 10, 0)] [] (by decide +kernel) rfl (pc' := 23) (ls' := [some (.ref 72), some (.int (nI w)), some (.int (nI w))]) (st' := [.int (N 72 10)]) (M' := N) rfl ⟨trivial, rfl, trivial⟩ ?_
  refine g_if_eq (off := 67) (tgt := 90) (by decide +kernel) (by decide) (fun c1 => ?_) (fun c1 => ?_)
  · refine G.sub (ls' := [some (.ref 72), some (.int (nI w)), none]) ?_ ⟨rfl, rfl, trivial⟩
    exact hp
  · refine blk 7 [(.aload_n 0, 0, 0, 0), (.getfield 112, 7, 9, 0)] [] (by decide +kernel) rfl (pc' := 30) (ls' := [some (.ref 72), some (.int (nI w)), some (.int (nI w))]) (st' := [.int (N 72 9)]) (M' := N) rfl ⟨trivial, rfl, trivial⟩ ?_
    refine g_if_ne (off := 60) (tgt := 90) (by decide +kernel) (by decide) (fun c2 => ?_) (fun c2 => ?_)
    · refine G.sub (ls' := [some (.ref 72), some (.int (nI w)), none]) ?_ ⟨rfl, rfl, trivial⟩
      exact hp
    · refine blk 7 [(.aload_n 0, 0, 0, 0), (.getfield 35, 7, 14, 0), (.iload_n 2, 0, 0, 0), (.iaload, 0, 0, 0)] [w] (by decide +kernel) rfl (pc' := 39) (ls' := [some (.ref 72), some (.int (nI w)), some (.int (nI w))]) (st' := [.int (N 80 w)]) (M' := N) rfl ⟨trivial, rfl, trivial, ⟨rfl, (by show _ < 9; omega)⟩, trivial⟩ ?_
      refine g_if_lt (off := 51) (tgt := 90) (by decide +kernel) (by decide) (fun c3 => ?_) (fun c3 => ?_)
      · refine G.sub (ls' := [some (.ref 72), some (.int (nI w)), none]) ?_ ⟨rfl, rfl, trivial⟩
        exact hp
      · exact absurd ⟨by assumption, by assumption⟩ hno
theorem l_mwg4 {N : Mem} {w : Nat} {Post : Option Value → Mem → Prop} (hp : G mX7_weigh 2 [some (.ref 72), some (.int (nI (w + 1))), none] [] N Post) : G mX7_weigh 90 [some (.ref 72), some (.int (nI w)), none] [] N Post := by
  refine blk 7 [(.iinc 1 1, 0, 0, (nI 1)), (.goto (-91), 2, 0, 0)] [] (by decide +kernel) rfl (pc' := 2) (ls' := [some (.ref 72), some (.int (nI w + nI 1)), none]) (st' := []) (M' := N) rfl ⟨trivial, trivial, trivial⟩ ?_
  refine G.sub (ls' := [some (.ref 72), some (.int (nI (w + 1))), none]) ?_ ⟨rfl, congrArg (fun z => some (Value.int z)) (by simp only [nI_add, nI_s1]), trivial⟩
  exact hp
theorem l_mwg1 {D : Nat → Nat → Int32} {sp : Bool} {M : Mem} {n : Nat} {h : Hist} (hn5 : n ≤ 5) (hl : h.length + 1 = n) (hh : okH n h) (hT : mT D sp n h M) : ∀ d w N, d = n - w → w ≤ n → (∀ a, a < w → N 88 a = wtF D sp n h (M 72 10) a) → (∀ z, z ≠ 88 → N z = M z) → G mX7_weigh 2 [some (.ref 72), some (.int (nI w)), none] [] N (fun r N => r = none ∧ (∀ a, a < n → N 88 a = wtF D sp n h (M 72 10) a) ∧ (∀ z, z ≠ 88 → N z = M z)) := by
  intro d
  induction d using Nat.strongRecOn with
  | ind d ih =>
    intro w N hd hw j1 j2
    have hnN : N 72 0 = nI n := by rw [j2 72 (by decide)]; exact hT.1
    refine blk 7 [(.iload_n 1, 0, 0, 0), (.aload_n 0, 0, 0, 0), (.getfield 103, 7, 0, 0)] [] (by decide +kernel) rfl (pc' := 7) (ls' := [some (.ref 72), some (.int (nI w)), none]) (st' := [.int (N 72 0), .int (nI w)]) (M' := N) rfl ⟨trivial, trivial, rfl, trivial⟩ ?_
    refine g_icmp_ge (off := 89) (tgt := 96) (by decide +kernel) (by decide) (fun c1 => ?_) (fun c1 => ?_)
    · have nc1 : n ≤ w := (nI_leI (by omega) (by omega)).mp (by simpa only [hnN, nI_add, pk_mul, nI_s1, n0_lit] using c1)
      have e : w = n := by omega
      subst e
      exact g_return (by decide +kernel) rfl ⟨rfl, j1, j2⟩
    · have nc1 : w < n := by
        have z : ¬ nI n ≤ nI w := by simpa only [hnN, nI_add, pk_mul, nI_s1, n0_lit] using c1
        rw [nI_leI (by omega) (by omega)] at z
        omega
      refine blk 7 [(.aload_n 0, 0, 0, 0), (.getfield 59, 7, 22, 0), (.iload_n 1, 0, 0, 0), (.iconst 1, 0, 0, (nI 1)), (.iastore, 0, 0, 0), (.iload_n 1, 0, 0, 0), (.istore_n 2, 0, 0, 0)] [w] (by decide +kernel) rfl (pc' := 19) (ls' := [some (.ref 72), some (.int (nI w)), some (.int (nI w))]) (st' := []) (M' := stm N 88 w (nI 1)) rfl ⟨trivial, rfl, trivial, trivial, ⟨rfl, (by show _ < 5; omega), by decide⟩, trivial, trivial, trivial⟩ ?_
      have m1 : ∀ z, z ≠ 88 → (stm N 88 w (nI 1)) z = M z := fun z hz => by rw [stm_ne hz]; exact j2 z hz
      by_cases c : ¬ M 72 10 = 0 ∧ sp = false
      · refine l_mwg2 (B := stm N 88 w (nI 1)) hn5 hl hh hT (by omega) c.1 c.2 (fun N' a1 a2 a3 => l_mwg4 (ih (d - 1) (by omega) (w + 1) N' (by omega) (by omega) (fun a ha => ?_) a3)) _ w _ rfl (by omega) (hist_self hn5 (by omega) hh (by omega)) ?_ (fun _ _ => rfl) m1
        · by_cases e : a = w
          · subst e; rw [a1]; unfold wtF; rw [if_pos c]
          · rw [a2 a e, stm_off e]; exact j1 a (by omega)
        · rw [stm_self, psum_zero (fun y hy => by unfold clH; rw [if_pos (hist_below hn5 (by omega) hh (by omega) hy)]; exact nI_0), Int32.add_zero]
      · refine l_mwg3 (by omega) (fun z => c ⟨by have := z.1; rw [m1 72 (by decide)] at this; exact this, by have := z.2; rw [m1 72 (by decide)] at this; exact hT.2.1.mp this⟩) (l_mwg4 (ih (d - 1) (by omega) (w + 1) _ (by omega) (by omega) (fun a ha => ?_) m1))
        by_cases e : a = w
        · subst e; rw [stm_self]; unfold wtF; rw [if_neg c]
        · rw [stm_off e]; exact j1 a (by omega)
theorem s_mweigh {D : Nat → Nat → Int32} {sp : Bool} (M : Mem) {n : Nat} {h : Hist} (hn5 : n ≤ 5) (hl : h.length + 1 = n) (hh : okH n h) (hT : mT D sp n h M) : Spec mX7_weigh [.ref 72] M (fun r N => r = none ∧ (∀ a, a < n → N 88 a = wtF D sp n h (M 72 10) a) ∧ (∀ z, z ≠ 88 → N z = M z)) := by
  refine Spec.of (by decide) (by simp [Value.category]) (Nat.le_of_ble_eq_true rfl) ?_
  refine blk 7 [(.iconst 0, 0, 0, (nI 0)), (.istore_n 1, 0, 0, 0)] [] (by decide +kernel) rfl (pc' := 2) (ls' := [some (.ref 72), some (.int (nI 0)), none]) (st' := []) (M' := M) rfl ⟨trivial, trivial, trivial⟩ ?_
  exact l_mwg1 hn5 hl hh hT _ 0 M rfl (by omega) (fun a h => absurd h (by omega)) (fun _ _ => rfl)
theorem l_takeP {M A : Mem} {a : Nat} {Post : Option Value → Mem → Prop} (ha : a < 9) (h84 : A 84 = M 84) (hp : ∀ N, (∀ k, k < 300 → N 90 k = M 84 (300 * a + k)) → (∀ z, z ≠ 90 → N z = A z) → Post none N) : ∀ d k N, d = 300 - k → k ≤ 300 → (∀ x, x < k → N 90 x = M 84 (300 * a + x)) → (∀ z, z ≠ 90 → N z = A z) → G mX7_takeP 22 [some (.ref 72), some (.int (nI a)), some (.int (nI k))] [] N Post := by
  intro d
  induction d using Nat.strongRecOn with
  | ind d ih =>
    intro k N hd hk j1 j2
    refine blk 7 [(.iload_n 2, 0, 0, 0), (.sipush 300, 0, 0, (nI 300))] [] (by decide +kernel) rfl (pc' := 26) (ls' := [some (.ref 72), some (.int (nI a)), some (.int (nI k))]) (st' := [.int (nI 300), .int (nI k)]) (M' := N) rfl ⟨trivial, trivial, trivial⟩ ?_
    refine g_icmp_ge (off := 27) (tgt := 53) (by decide +kernel) (by decide) (fun c1 => ?_) (fun c1 => ?_)
    · have nc1 : 300 ≤ k := (nI_leI (by omega) (by omega)).mp (by simpa only [nI_add, pk_mul, nI_s1, n0_lit] using c1)
      have e : k = 300 := by omega
      subst e
      exact g_return (by decide +kernel) rfl (hp N j1 j2)
    · have nc1 : k < 300 := by
        have z : ¬ nI 300 ≤ nI k := by simpa only [nI_add, pk_mul, nI_s1, n0_lit] using c1
        rw [nI_leI (by omega) (by omega)] at z
        omega
      refine blk 7 [(.aload_n 0, 0, 0, 0), (.getfield 65, 7, 29, 0), (.iload_n 2, 0, 0, 0), (.aload_n 0, 0, 0, 0), (.getfield 47, 7, 18, 0), (.sipush 300, 0, 0, (nI 300)), (.iload_n 1, 0, 0, 0), (.imul, 0, 0, 0), (.iload_n 2, 0, 0, 0), (.iadd, 0, 0, 0), (.iaload, 0, 0, 0), (.iastore, 0, 0, 0), (.iinc 2 1, 0, 0, (nI 1)), (.goto (-28), 22, 0, 0)] [300 * a + k, k] (by decide +kernel) rfl (pc' := 22) (ls' := [some (.ref 72), some (.int (nI a)), some (.int (nI k + nI 1))]) (st' := []) (M' := stm N 90 k (N 84 (300 * a + k))) rfl ⟨trivial, rfl, trivial, trivial, rfl, trivial, trivial, trivial, trivial, trivial, ⟨(by simp only [nI_add, pk_mul, nI_s1, Nat.reduceAdd, Nat.reduceMul]), (by show _ < 2700; omega)⟩, ⟨rfl, (by show _ < 300; omega), by decide⟩, trivial, trivial, trivial⟩ ?_
      refine G.sub (ls' := [some (.ref 72), some (.int (nI a)), some (.int (nI (k + 1)))]) ?_ ⟨rfl, rfl, congrArg (fun z => some (Value.int z)) (by simp only [nI_add, nI_s1]), trivial⟩
      refine ih (d - 1) (by omega) (k + 1) _ (by omega) (by omega) (fun x hx => ?_) (fun z hz => by rw [stm_ne hz]; exact j2 z hz)
      by_cases e : x = k
      · subst e; rw [stm_self, j2 84 (by decide), h84]
      · rw [stm_off e]; exact j1 x (by omega)
theorem s_takeP (M : Mem) {a : Nat} (ha : a < 9) : Spec mX7_takeP [.ref 72, .int (nI a)] M (fun r N => r = none ∧ N 72 25 = M 82 a ∧ N 72 27 = M 83 a ∧ (∀ f, f ≠ 25 → f ≠ 27 → N 72 f = M 72 f) ∧ (∀ k, k < 300 → N 90 k = M 84 (300 * a + k)) ∧ ∀ z, z ≠ 72 → z ≠ 90 → N z = M z) := by
  refine Spec.of (by decide) (by simp [Value.category]) (Nat.le_of_ble_eq_true rfl) ?_
  refine blk 7 [(.aload_n 0, 0, 0, 0), (.aload_n 0, 0, 0, 0), (.getfield 41, 7, 16, 0), (.iload_n 1, 0, 0, 0), (.iaload, 0, 0, 0), (.putfield 118, 7, 25, 0), (.aload_n 0, 0, 0, 0), (.aload_n 0, 0, 0, 0), (.getfield 44, 7, 17, 0), (.iload_n 1, 0, 0, 0), (.iaload, 0, 0, 0), (.putfield 121, 7, 27, 0), (.iconst 0, 0, 0, (nI 0)), (.istore_n 2, 0, 0, 0)] [a, a] (by decide +kernel) rfl (pc' := 22) (ls' := [some (.ref 72), some (.int (nI a)), some (.int (nI 0))]) (st' := []) (M' := stm (stm M 72 25 (M 82 a)) 72 27 (M 83 a)) rfl ⟨trivial, trivial, rfl, trivial, ⟨rfl, (by show _ < 9; omega)⟩, rfl, trivial, trivial, rfl, trivial, ⟨rfl, (by show _ < 9; omega)⟩, rfl, trivial, trivial, trivial⟩ ?_
  refine l_takeP (M := M) (A := stm (stm M 72 25 (M 82 a)) 72 27 (M 83 a)) ha (by rw [stm_ne (by decide), stm_ne (by decide)]) (fun N q1 q2 => ⟨rfl, ?_, ?_, fun f h1 h2 => ?_, q1, fun z h1 h2 => ?_⟩) _ 0 _ rfl (by omega) (fun x h => absurd h (by omega)) (fun _ _ => rfl)
  · rw [q2 72 (by decide), stm_off (by decide), stm_self]
  · rw [q2 72 (by decide), stm_self]
  · rw [q2 72 (by decide), stm_off h2, stm_off h1]
  · rw [q2 z h2, stm_ne h1, stm_ne h1]
theorem l_takeQ {M A : Mem} {a : Nat} {Post : Option Value → Mem → Prop} (ha : a < 9) (h84 : A 84 = M 84) (hp : ∀ N, (∀ k, k < 300 → N 91 k = M 84 (300 * a + k)) → (∀ z, z ≠ 91 → N z = A z) → Post none N) : ∀ d k N, d = 300 - k → k ≤ 300 → (∀ x, x < k → N 91 x = M 84 (300 * a + x)) → (∀ z, z ≠ 91 → N z = A z) → G mX7_takeQ 22 [some (.ref 72), some (.int (nI a)), some (.int (nI k))] [] N Post := by
  intro d
  induction d using Nat.strongRecOn with
  | ind d ih =>
    intro k N hd hk j1 j2
    refine blk 7 [(.iload_n 2, 0, 0, 0), (.sipush 300, 0, 0, (nI 300))] [] (by decide +kernel) rfl (pc' := 26) (ls' := [some (.ref 72), some (.int (nI a)), some (.int (nI k))]) (st' := [.int (nI 300), .int (nI k)]) (M' := N) rfl ⟨trivial, trivial, trivial⟩ ?_
    refine g_icmp_ge (off := 27) (tgt := 53) (by decide +kernel) (by decide) (fun c1 => ?_) (fun c1 => ?_)
    · have nc1 : 300 ≤ k := (nI_leI (by omega) (by omega)).mp (by simpa only [nI_add, pk_mul, nI_s1, n0_lit] using c1)
      have e : k = 300 := by omega
      subst e
      exact g_return (by decide +kernel) rfl (hp N j1 j2)
    · have nc1 : k < 300 := by
        have z : ¬ nI 300 ≤ nI k := by simpa only [nI_add, pk_mul, nI_s1, n0_lit] using c1
        rw [nI_leI (by omega) (by omega)] at z
        omega
      refine blk 7 [(.aload_n 0, 0, 0, 0), (.getfield 68, 7, 30, 0), (.iload_n 2, 0, 0, 0), (.aload_n 0, 0, 0, 0), (.getfield 47, 7, 18, 0), (.sipush 300, 0, 0, (nI 300)), (.iload_n 1, 0, 0, 0), (.imul, 0, 0, 0), (.iload_n 2, 0, 0, 0), (.iadd, 0, 0, 0), (.iaload, 0, 0, 0), (.iastore, 0, 0, 0), (.iinc 2 1, 0, 0, (nI 1)), (.goto (-28), 22, 0, 0)] [300 * a + k, k] (by decide +kernel) rfl (pc' := 22) (ls' := [some (.ref 72), some (.int (nI a)), some (.int (nI k + nI 1))]) (st' := []) (M' := stm N 91 k (N 84 (300 * a + k))) rfl ⟨trivial, rfl, trivial, trivial, rfl, trivial, trivial, trivial, trivial, trivial, ⟨(by simp only [nI_add, pk_mul, nI_s1, Nat.reduceAdd, Nat.reduceMul]), (by show _ < 2700; omega)⟩, ⟨rfl, (by show _ < 300; omega), by decide⟩, trivial, trivial, trivial⟩ ?_
      refine G.sub (ls' := [some (.ref 72), some (.int (nI a)), some (.int (nI (k + 1)))]) ?_ ⟨rfl, rfl, congrArg (fun z => some (Value.int z)) (by simp only [nI_add, nI_s1]), trivial⟩
      refine ih (d - 1) (by omega) (k + 1) _ (by omega) (by omega) (fun x hx => ?_) (fun z hz => by rw [stm_ne hz]; exact j2 z hz)
      by_cases e : x = k
      · subst e; rw [stm_self, j2 84 (by decide), h84]
      · rw [stm_off e]; exact j1 x (by omega)
theorem s_takeQ (M : Mem) {a : Nat} (ha : a < 9) : Spec mX7_takeQ [.ref 72, .int (nI a)] M (fun r N => r = none ∧ N 72 26 = M 82 a ∧ N 72 28 = M 83 a ∧ (∀ f, f ≠ 26 → f ≠ 28 → N 72 f = M 72 f) ∧ (∀ k, k < 300 → N 91 k = M 84 (300 * a + k)) ∧ ∀ z, z ≠ 72 → z ≠ 91 → N z = M z) := by
  refine Spec.of (by decide) (by simp [Value.category]) (Nat.le_of_ble_eq_true rfl) ?_
  refine blk 7 [(.aload_n 0, 0, 0, 0), (.aload_n 0, 0, 0, 0), (.getfield 41, 7, 16, 0), (.iload_n 1, 0, 0, 0), (.iaload, 0, 0, 0), (.putfield 124, 7, 26, 0), (.aload_n 0, 0, 0, 0), (.aload_n 0, 0, 0, 0), (.getfield 44, 7, 17, 0), (.iload_n 1, 0, 0, 0), (.iaload, 0, 0, 0), (.putfield 127, 7, 28, 0), (.iconst 0, 0, 0, (nI 0)), (.istore_n 2, 0, 0, 0)] [a, a] (by decide +kernel) rfl (pc' := 22) (ls' := [some (.ref 72), some (.int (nI a)), some (.int (nI 0))]) (st' := []) (M' := stm (stm M 72 26 (M 82 a)) 72 28 (M 83 a)) rfl ⟨trivial, trivial, rfl, trivial, ⟨rfl, (by show _ < 9; omega)⟩, rfl, trivial, trivial, rfl, trivial, ⟨rfl, (by show _ < 9; omega)⟩, rfl, trivial, trivial, trivial⟩ ?_
  refine l_takeQ (M := M) (A := stm (stm M 72 26 (M 82 a)) 72 28 (M 83 a)) ha (by rw [stm_ne (by decide), stm_ne (by decide)]) (fun N q1 q2 => ⟨rfl, ?_, ?_, fun f h1 h2 => ?_, q1, fun z h1 h2 => ?_⟩) _ 0 _ rfl (by omega) (fun x h => absurd h (by omega)) (fun _ _ => rfl)
  · rw [q2 72 (by decide), stm_off (by decide), stm_self]
  · rw [q2 72 (by decide), stm_self]
  · rw [q2 72 (by decide), stm_off h2, stm_off h1]
  · rw [q2 z h2, stm_ne h1, stm_ne h1]
