/-! the reference's tree: what its memory holds; valueOf -/
def mT (D : Nat → Nat → Int32) (sp : Bool) (n : Nat) (h : Hist) (M : Mem) : Prop :=
  M 72 0 = nI n ∧ (M 72 9 = 0 ↔ sp = false) ∧ (∀ a, a < n + h.length → M 82 a = nI (mskF n h a) ∧ M 80 a = parI n h a) ∧
  (∀ a, n ≤ a → a < n + h.length → M 78 a = nI (kidF n h a).1 ∧ M 79 a = nI (kidF n h a).2) ∧
  (sp = false → ∀ a, a < n + h.length → M 85 a = hgF D sp n h a) ∧
  (¬ sp = false → ∀ a b, a < n + h.length → b < n + h.length → a ≠ b → parF n h a = 0 → parF n h b = 0 → M 86 (9 * a + b) = bwF D sp n h a b) ∧
  ∀ v w, v < n → w < n → v ≠ w → M 87 (5 * v + w) = D v w
theorem mT_fr {D : Nat → Nat → Int32} {sp : Bool} {n : Nat} {h : Hist} {M N : Mem} (h0 : N 72 0 = M 72 0) (h9 : N 72 9 = M 72 9) (hz : ∀ z, (77 < z ∧ z < 81) ∨ z = 82 ∨ (84 < z ∧ z < 88) → N z = M z) (hT : mT D sp n h M) : mT D sp n h N := by
  unfold mT at *
  rw [h0, h9, hz 82 (by omega), hz 80 (by omega), hz 78 (by omega), hz 79 (by omega), hz 85 (by omega), hz 86 (by omega), hz 87 (by omega)]
  exact hT
theorem mT_open {D : Nat → Nat → Int32} {sp : Bool} {n : Nat} {h : Hist} {M : Mem} (hn : n ≤ 5) (hl : h.length < n) (hh : okH n h) (hT : mT D sp n h M) {a : Nat} (ha : a < n + h.length) : M 80 a < 0 ↔ parF n h a = 0 := by
  rw [(hT.2.2.1 a ha).2]
  have := hist_par hn hl hh ha
  exact parI_neg (by omega)
theorem opn_cnt {n : Nat} {h : Hist} : ∀ k, ∃ c, c ≤ k ∧ psum (opnF n h) k = nI c := by
  intro k
  induction k with
  | zero => exact ⟨0, Nat.le_refl 0, nI_0.symm⟩
  | succ k ih =>
    obtain ⟨c, h1, h2⟩ := ih
    rw [psum, h2]
    unfold opnF
    split
    · exact ⟨c + 1, by omega, nI_add _ _⟩
    · exact ⟨c + 0, by omega, nI_add _ _⟩
theorem sm_zero {K : Int} (h : 0 ≤ K) : sm K (nI 0) := by
  unfold sm
  have : (nI 0).toInt = 0 := by decide +kernel
  omega
theorem sm_add {K L : Int} {x y : Int32} (hx : sm K x) (hy : sm L y) (h : K + L ≤ 1000000000) (hK : 0 ≤ K) (hL : 0 ≤ L) : sm (K + L) (x + y) := by
  unfold sm at *
  rw [ti_add (by omega) (by omega) (by omega) (by omega)]
  omega
theorem nm_sm {dd : Nat → Nat → Nat} {sp : Bool} {n : Nat} {h : Hist} (hn : n ≤ 5) (hl : h.length < n) (hd : ∀ a b, dd a b ≤ 1000) (a b : Nat) : sm 4000000 (nmF (dI dd) sp n h a b) := by
  have hb : ∀ a b, sm 128000 (bwF (dI dd) sp n h a b) := fun a b => by
    have : ∀ j, j < 5 → (8000 * 2 ^ j : Int) ≤ 128000 := by decide
    exact sm_mono (bw_sm hd h (by omega) a b) (this _ (by omega))
  unfold nmF
  by_cases c : sp = false
  · rw [if_pos c]; exact sm_mono (hb a b) (by omega)
  · rw [if_neg c]
    obtain ⟨k, k1, k2⟩ := opn_cnt (n := n) (h := h) (n + h.length)
    rw [k2]
    have e1 : (nI k - nI 2).toInt = (k : Int) - 2 := by
      have t2 : (nI 2).toInt = 2 := by decide +kernel
      have tk := nI_toInt (n := k) (by omega)
      rw [ti_sub (by omega) (by omega) (by omega) (by omega), tk, t2]
    have hx := hb a b
    have hs : sm ((n + h.length : Nat) * 256000) (psum (sppF (dI dd) sp n h a b) (n + h.length)) := psum_sm (by omega) (by omega) (fun x _ => by
      unfold sppF
      split
      · refine sm_mono (K := 128000 + 128000) (sm_add ?_ ?_ (by omega) (by omega) (by omega)) (by omega)
        · split
          · exact sm_zero (by omega)
          · exact hb a x
        · split
          · exact sm_zero (by omega)
          · exact hb b x
      · exact sm_zero (by omega))
    have hs := sm_mono hs (show ((n + h.length : Nat) : Int) * 256000 ≤ 2304000 by omega)
    have hm : sm (9 * 128000) ((nI k - nI 2) * bwF (dI dd) sp n h a b) := by
      unfold sm at *
      have hx1 := hx.1
      have hx2 := hx.2
      generalize hB : (bwF (dI dd) sp n h a b).toInt = B at *
      have b1 : -(9 * 128000) ≤ ((k : Int) - 2) * B ∧ ((k : Int) - 2) * B ≤ 9 * 128000 := by
        rcases Int.lt_or_le ((k : Int) - 2) 0 with z | z
        · have := mul_bd (x := -((k : Int) - 2)) (X := 9) (y := -B) (Y := 128000) (by omega) (by omega) (by omega) (by omega)
          rw [Int.neg_mul_neg] at this
          omega
        · have := mul_bd (x := (k : Int) - 2) (X := 9) (y := B) (Y := 128000) (by omega) (by omega) (by omega) (by omega)
          omega
      rw [ti_mul (by rw [e1, hB]; omega) (by rw [e1, hB]; omega), e1, hB]
      omega
    unfold sm at *
    rw [ti_sub (by omega) (by omega) (by omega) (by omega)]
    omega
theorem dn_ps {sp : Bool} {n : Nat} {h : Hist} (hn : n ≤ 5) (hl : h.length < n) (hh : okH n h) {a b : Nat} (ha : a < n + h.length) (hb : b < n + h.length) : ps 25 (dnF sp n h a b) ∧ 0 < (dnF sp n h a b).toInt := by
  have s1 := hist_small hn hl hh ha
  have s2 := hist_small hn hl hh hb
  have m : sizF n h a * sizF n h b ≤ 5 * 5 := mulmul_le s1.2.1 s2.2.1
  have p : 0 < sizF n h a * sizF n h b := Nat.mul_pos s1.1 s2.1
  unfold dnF
  by_cases c : sp = false
  · rw [if_pos c, pk_mul]
    unfold ps
    rw [nI_toInt (by omega)]
    omega
  · rw [if_neg c]
    unfold ps
    have : (nI 1).toInt = 1 := by decide +kernel
    omega
theorem mul_sm {x y : Int32} (hx : sm 4000000 x) (hy : ps 25 y) : (x * y).toInt = x.toInt * y.toInt ∧ (x.toInt64 * y.toInt64).toInt = x.toInt * y.toInt := by
  unfold sm at hx
  unfold ps at hy
  have hm := mul_bd (x := y.toInt) (X := 25) (y := x.toInt) (Y := 4000000) hy.1 hy.2 hx.1 hx.2
  rw [Int.mul_comm y.toInt] at hm
  refine ⟨ti_mul (by omega) (by omega), ?_⟩
  rw [Int64.toInt_mul, Int32.toInt_toInt64, Int32.toInt_toInt64]
  exact Int.bmod_eq_of_le (by omega) (by omega)
theorem cmp_long {x y z w : Int32} (hx : sm 4000000 x) (hy : ps 25 y) (hz : sm 4000000 z) (hw : ps 25 w) : x.toInt64 * y.toInt64 < z.toInt64 * w.toInt64 ↔ x * y < z * w := by
  rw [Int64.lt_iff_toInt_lt, Int32.lt_iff_toInt_lt, (mul_sm hx hy).1, (mul_sm hx hy).2, (mul_sm hz hw).1, (mul_sm hz hw).2]
theorem div_long {x y : Int32} (hx : sm 4000000 x) (hy : ps 25 y) (hy0 : 0 < y.toInt) : (x.toInt64 / (100 * y.toInt64)).toInt32 = x / (nI 100 * y) := by
  unfold sm at hx
  unfold ps at hy
  have e1 : ((100 : Int64) * y.toInt64).toInt = 100 * y.toInt := by
    rw [Int64.toInt_mul, Int32.toInt_toInt64, show (100 : Int64).toInt = 100 from by decide]
    exact Int.bmod_eq_of_le (by omega) (by omega)
  have e2 : (nI 100 * y).toInt = 100 * y.toInt := by
    have t : (nI 100).toInt = 100 := by decide +kernel
    rw [ti_mul (by rw [t]; omega) (by rw [t]; omega), t]
  have hq : -4000000 ≤ x.toInt.tdiv (100 * y.toInt) ∧ x.toInt.tdiv (100 * y.toInt) ≤ 4000000 := by
    have h1 := Int.natAbs_tdiv_le_natAbs x.toInt (100 * y.toInt)
    omega
  refine i32_eq ?_
  rw [Int64.toInt_toInt32, Int64.toInt_div, e1, Int32.toInt_toInt64, Int32.toInt_div, e2]
  have b1 : (x.toInt.tdiv (100 * y.toInt)).bmod (2 ^ 64) = x.toInt.tdiv (100 * y.toInt) := Int.bmod_eq_of_le (by omega) (by omega)
  rw [b1]
/-! valueOf -/
theorem sub_sub2 (x a b : Int32) : x - a - b = x - (a + b) := by
  rw [Int32.sub_eq_add_neg x (a + b), Int32.neg_add, Int32.sub_eq_add_neg (-a) b, ← Int32.add_assoc, ← Int32.sub_eq_add_neg, ← Int32.sub_eq_add_neg]
theorem long_ok {p s x y : Int32} (hp : -2 ≤ p.toInt ∧ p.toInt ≤ 9) (hs : sm 128000 s) (hx : sm 2000000 x) (hy : sm 2000000 y) : (p.toInt64 * s.toInt64 - x.toInt64 - y.toInt64).toInt32.toInt64 = p.toInt64 * s.toInt64 - x.toInt64 - y.toInt64 := by
  unfold sm at *
  have b1 : -(9 * 128000) ≤ p.toInt * s.toInt ∧ p.toInt * s.toInt ≤ 9 * 128000 := by
    rcases Int.lt_or_le p.toInt 0 with z | z
    · have := mul_bd (x := -p.toInt) (X := 9) (y := -s.toInt) (Y := 128000) (by omega) (by omega) (by omega) (by omega)
      rw [Int.neg_mul_neg] at this
      omega
    · have := mul_bd (x := p.toInt) (X := 9) (y := s.toInt) (Y := 128000) (by omega) (by omega) (by omega) (by omega)
      omega
  have e1 : (p.toInt64 * s.toInt64).toInt = p.toInt * s.toInt := by
    rw [Int64.toInt_mul, Int32.toInt_toInt64, Int32.toInt_toInt64]
    exact Int.bmod_eq_of_le (by omega) (by omega)
  have e2 : (p.toInt64 * s.toInt64 - x.toInt64).toInt = p.toInt * s.toInt - x.toInt := by
    rw [Int64.toInt_sub, e1, Int32.toInt_toInt64]
    exact Int.bmod_eq_of_le (by omega) (by omega)
  have e3 : (p.toInt64 * s.toInt64 - x.toInt64 - y.toInt64).toInt = p.toInt * s.toInt - x.toInt - y.toInt := by
    rw [Int64.toInt_sub, e2, Int32.toInt_toInt64]
    exact Int.bmod_eq_of_le (by omega) (by omega)
  exact lg_i2l_l2i (by omega) (by omega)
abbrev hbq (S : Int32) (w : Nat) : Int32 := hb S w
theorem mT_num {D : Nat → Nat → Int32} {sp : Bool} {n : Nat} {h : Hist} {M : Mem} (hn : n ≤ 5) (hl : h.length < n) (hh : okH n h) (hs : ∀ a b, D a b = D b a) (hT : mT D sp n h M) {a b : Nat} (ha : a < n + h.length) (hb : b < n + h.length) (hab : a ≠ b) (h1 : parF n h a = 0) (h2 : parF n h b = 0) :
    (sp = false → psum (fun v => psum (smF M a b v) n) n = nmF D sp n h a b ∧ psum (fun w => hbq (M 82 a) w) 5 * psum (fun w => hbq (M 82 b) w) 5 = dnF sp n h a b) ∧ (¬ sp = false → (psum (opnF n h) (n + h.length) - nI 2) * M 86 (9 * a + b) - psum (snF M a) (n + h.length) - psum (snF M b) (n + h.length) = nmF D sp n h a b ∧ nI 1 = dnF sp n h a b) := by
  have hop := fun x (hx : x < n + h.length) => mT_open hn hl hh hT hx
  obtain ⟨t0, t1, t2, t3, t4, t5, t6⟩ := hT
  refine ⟨fun c => ⟨?_, ?_⟩, fun c => ⟨?_, ?_⟩⟩
  · subst c
    have e : psum (fun v => psum (smF M a b v) n) n = sumD D n (mskF n h a) (mskF n h b) := by
      unfold sumD
      refine psum_congr (fun v hv => psum_congr (fun w hw => ?_))
      unfold smF
      rw [(t2 a ha).1, (t2 b hb).1]
      by_cases z : ¬ hbq (nI (mskF n h a)) v = 0 ∧ ¬ hbq (nI (mskF n h b)) w = 0
      · rw [if_pos z, if_pos z]
        have sa := hist_small hn hl hh ha
        have sb := hist_small hn hl hh hb
        have hne : v ≠ w := fun e => by
          subst e
          exact hb_and sa.2.2 sb.2.2 (by omega) (hist_apart hn hl hh ha hb hab h1 h2) z.1 z.2
        exact t6 v w hv hw hne
      · rw [if_neg z, if_neg z]
    rw [e, sum_bw hn hs h hl hh a b ha hb hab h1 h2]
    unfold nmF
    rw [if_pos rfl]
  · rw [(t2 a ha).1, (t2 b hb).1, siz_count hn hl hh ha, siz_count hn hl hh hb]
    unfold dnF
    rw [if_pos c]
  · unfold nmF
    rw [if_neg c, t5 c a b ha hb hab h1 h2]
    have e : psum (sppF D sp n h a b) (n + h.length) = psum (snF M a) (n + h.length) + psum (snF M b) (n + h.length) := by
      rw [← psum_add]
      refine psum_congr (fun x hx => ?_)
      unfold sppF snF
      by_cases z : parF n h x = 0
      · rw [if_pos z]
        have q1 : (if x ≠ a ∧ M 80 x < 0 then M 86 (9 * a + x) else 0) = if x = a then nI 0 else bwF D sp n h a x := by
          by_cases e : x = a
          · rw [if_neg (fun y => y.1 e), if_pos e, nI_0]
          · rw [if_pos ⟨e, (hop x hx).mpr z⟩, if_neg e, t5 c a x ha hx (fun y => e y.symm) h1 z]
        have q2 : (if x ≠ b ∧ M 80 x < 0 then M 86 (9 * b + x) else 0) = if x = b then nI 0 else bwF D sp n h b x := by
          by_cases e : x = b
          · rw [if_neg (fun y => y.1 e), if_pos e, nI_0]
          · rw [if_pos ⟨e, (hop x hx).mpr z⟩, if_neg e, t5 c b x hb hx (fun y => e y.symm) h2 z]
        rw [q1, q2]
      · rw [if_neg z, if_neg (fun y => z ((hop x hx).mp y.2)), if_neg (fun y => z ((hop x hx).mp y.2)), nI_0, Int32.add_zero]
    rw [e, sub_sub2]
  · unfold dnF
    rw [if_neg c]
theorem value_long {dd : Nat → Nat → Nat} {sp : Bool} {n : Nat} {h : Hist} {M : Mem} (hn5 : n ≤ 5) (hl : h.length < n) (hh : okH n h) (hd : ∀ a b, dd a b ≤ 1000) (hT : mT (dI dd) sp n h M) {a b : Nat} (ha : a < n + h.length) (hb' : b < n + h.length) (hab : a ≠ b) (h1 : parF n h a = 0) (h2 : parF n h b = 0) (c : ¬ M 72 9 = 0) : ((psum (opnF n h) (n + h.length) - nI 2).toInt64 * (M 86 (9 * a + b)).toInt64 - (psum (snF M a) (n + h.length)).toInt64 - (psum (snF M b) (n + h.length)).toInt64).toInt32.toInt64 = (psum (opnF n h) (n + h.length) - nI 2).toInt64 * (M 86 (9 * a + b)).toInt64 - (psum (snF M a) (n + h.length)).toInt64 - (psum (snF M b) (n + h.length)).toInt64 := by
  have hop := fun x (hx : x < n + h.length) => mT_open hn5 hl hh hT hx
  have c : ¬ sp = false := fun z => c (hT.2.1.mpr z)
  have t5 := hT.2.2.2.2.2.1 c
  have hbw : ∀ a b, sm 128000 (bwF (dI dd) sp n h a b) := fun a b => by
    have : ∀ j, j < 5 → (8000 * 2 ^ j : Int) ≤ 128000 := by decide
    exact sm_mono (bw_sm hd h (by omega) a b) (this _ (by omega))
  have hsn : ∀ a, a < n + h.length → parF n h a = 0 → sm 2000000 (psum (snF M a) (n + h.length)) := fun a ha ho => by
    have := psum_sm (f := snF M a) (K := 128000) (n := n + h.length) (by omega) (by omega) (fun x hx => by
      unfold snF
      by_cases z : x ≠ a ∧ M 80 x < 0
      · rw [if_pos z, t5 a x ha hx (fun y => z.1 y.symm) ho ((hop x hx).mp z.2)]; exact hbw a x
      · rw [if_neg z, ← nI_0]; exact sm_zero (by omega))
    exact sm_mono this (by omega)
  obtain ⟨k, k1, k2⟩ := opn_cnt (n := n) (h := h) (n + h.length)
  refine long_ok ?_ ?_ (hsn a ha h1) (hsn b hb' h2)
  · rw [k2]
    have t2 : (nI 2).toInt = 2 := by decide +kernel
    have tk := nI_toInt (n := k) (by omega)
    rw [ti_sub (by omega) (by omega) (by omega) (by omega), tk, t2]
    omega
  · rw [t5 a b ha hb' hab h1 h2]; exact hbw a b
theorem s_value {dd : Nat → Nat → Nat} {sp : Bool} {n : Nat} {h : Hist} (M : Mem) (hn5 : n ≤ 5) (hl : h.length < n) (hh : okH n h) (hs' : ∀ a b, dd a b = dd b a) (hd : ∀ a b, dd a b ≤ 1000) (hT : mT (dI dd) sp n h M) {a b : Nat} (ha : a < n + h.length) (hb' : b < n + h.length) (hab : a ≠ b) (h1 : parF n h a = 0) (h2 : parF n h b = 0) : Spec mX7_valueOf [.ref 72, .int (nI a), .int (nI b), .int (nI (n + h.length)), .int (psum (opnF n h) (n + h.length))] M (fun r N => r = none ∧ N = stm (stm M 72 38 (nmF (dI dd) sp n h a b)) 72 39 (dnF sp n h a b)) := by
  have hs : ∀ a b, dI dd a b = dI dd b a := fun a b => congrArg nI (hs' a b)
  refine Spec.of (by decide) (by simp [Value.category]) (Nat.le_of_ble_eq_true rfl) ?_
  refine blk 7 [(.aload_n 0, 0, 0, 0), (.getfield 112, 7, 9, 0)] [] (by decide +kernel) rfl (pc' := 4) (ls' := [some (.ref 72), some (.int (nI a)), some (.int (nI b)), some (.int (nI (n + h.length))), some (.int (psum (opnF n h) (n + h.length)))]) (st' := [.int (M 72 9)]) (M' := M) rfl ⟨trivial, rfl, trivial⟩ ?_
  refine g_if_eq (off := 49) (tgt := 53) (by decide +kernel) (by decide) (fun c1 => ?_) (fun c1 => ?_)
  · refine blk 7 [(.aload_n 0, 0, 0, 0), (.aload_n 0, 0, 0, 0), (.iload_n 1, 0, 0, 0), (.iload_n 2, 0, 0, 0)] [] (by decide +kernel) rfl (pc' := 57) (ls' := [some (.ref 72), some (.int (nI a)), some (.int (nI b)), some (.int (nI (n + h.length))), some (.int (psum (opnF n h) (n + h.length)))]) (st' := [.int (nI b), .int (nI a), .ref 72, .ref 72]) (M' := M) rfl ⟨trivial, trivial, trivial, trivial, trivial⟩ ?_
    refine g_callV (s_sumOf M (n := n) (a := a) (b := b) hT.1 hn5 (by omega) (by omega)) ok_X7_valueOf_X7_sumOf (by decide +kernel) rfl (c := 7) rfl (by decide) rfl (Nat.le_of_ble_eq_true rfl) (fun r M' h => ?_) rfl
    obtain ⟨hr, hM⟩ := h
    rw [hr, hM]
    show G _ 60 [some (.ref 72), some (.int (nI a)), some (.int (nI b)), some (.int (nI (n + h.length))), some (.int (psum (opnF n h) (n + h.length)))] [.int (psum (fun v => psum (smF M a b v) n) n), .ref 72] M _
    refine blk 7 [(.i2l, 0, 0, 0), (.putfield 191, 7, 38, 0), (.aload_n 0, 0, 0, 0), (.aload_n 0, 0, 0, 0), (.aload_n 0, 0, 0, 0), (.getfield 41, 7, 16, 0), (.iload_n 1, 0, 0, 0), (.iaload, 0, 0, 0)] [a] (by decide +kernel) rfl (pc' := 72) (ls' := [some (.ref 72), some (.int (nI a)), some (.int (nI b)), some (.int (nI (n + h.length))), some (.int (psum (opnF n h) (n + h.length)))]) (st' := [.int (M 82 a), .ref 72, .ref 72]) (M' := stm M 72 38 (((psum (fun v => psum (smF M a b v) n) n).toInt64).toInt32)) rfl ⟨trivial, ⟨rfl, by rw [lg_l2i_i2l]⟩, trivial, trivial, trivial, rfl, trivial, ⟨rfl, (by show _ < 9; omega)⟩, trivial⟩ ?_
    refine g_callV (s_count (stm M 72 38 (((psum (fun v => psum (smF M a b v) n) n).toInt64).toInt32)) (M 82 a)) ok_X7_valueOf_X7_countOf (by decide +kernel) rfl (c := 7) rfl (by decide) rfl (Nat.le_of_ble_eq_true rfl) (fun r M' h => ?_) rfl
    obtain ⟨hr, hM⟩ := h
    rw [hr, hM]
    show G _ 75 [some (.ref 72), some (.int (nI a)), some (.int (nI b)), some (.int (nI (n + h.length))), some (.int (psum (opnF n h) (n + h.length)))] [.int (psum (fun x => hb (M 82 a) x) 5), .ref 72] (stm M 72 38 (((psum (fun v => psum (smF M a b v) n) n).toInt64).toInt32)) _
    refine blk 7 [(.aload_n 0, 0, 0, 0), (.aload_n 0, 0, 0, 0), (.getfield 41, 7, 16, 0), (.iload_n 2, 0, 0, 0), (.iaload, 0, 0, 0)] [b] (by decide +kernel) rfl (pc' := 82) (ls' := [some (.ref 72), some (.int (nI a)), some (.int (nI b)), some (.int (nI (n + h.length))), some (.int (psum (opnF n h) (n + h.length)))]) (st' := [.int (M 82 b), .ref 72, .int (psum (fun x => hb (M 82 a) x) 5), .ref 72]) (M' := stm M 72 38 (((psum (fun v => psum (smF M a b v) n) n).toInt64).toInt32)) rfl ⟨trivial, trivial, rfl, trivial, ⟨rfl, (by show _ < 9; omega)⟩, trivial⟩ ?_
    refine g_callV (s_count (stm M 72 38 (((psum (fun v => psum (smF M a b v) n) n).toInt64).toInt32)) (M 82 b)) ok_X7_valueOf_X7_countOf (by decide +kernel) rfl (c := 7) rfl (by decide) rfl (Nat.le_of_ble_eq_true rfl) (fun r M' h => ?_) rfl
    obtain ⟨hr, hM⟩ := h
    rw [hr, hM]
    show G _ 85 [some (.ref 72), some (.int (nI a)), some (.int (nI b)), some (.int (nI (n + h.length))), some (.int (psum (opnF n h) (n + h.length)))] [.int (psum (fun x => hb (M 82 b) x) 5), .int (psum (fun x => hb (M 82 a) x) 5), .ref 72] (stm M 72 38 (((psum (fun v => psum (smF M a b v) n) n).toInt64).toInt32)) _
    refine blk 7 [(.imul, 0, 0, 0), (.i2l, 0, 0, 0), (.putfield 195, 7, 39, 0)] [] (by decide +kernel) rfl (pc' := 90) (ls' := [some (.ref 72), some (.int (nI a)), some (.int (nI b)), some (.int (nI (n + h.length))), some (.int (psum (opnF n h) (n + h.length)))]) (st' := []) (M' := stm (stm M 72 38 (((psum (fun v => psum (smF M a b v) n) n).toInt64).toInt32)) 72 39 ((((psum (fun x => hb (M 82 a) x) 5) * (psum (fun x => hb (M 82 b) x) 5)).toInt64).toInt32)) rfl ⟨trivial, trivial, ⟨rfl, by rw [lg_l2i_i2l]⟩, trivial⟩ ?_
    have e := (mT_num hn5 hl hh hs hT ha hb' hab h1 h2).1 (hT.2.1.mp c1)
    refine g_return (by decide +kernel) rfl ⟨rfl, ?_⟩
    rw [lg_l2i_i2l, lg_l2i_i2l, e.1]
    rw [show psum (fun x => hb (M 82 a) x) 5 * psum (fun x => hb (M 82 b) x) 5 = dnF sp n h a b from e.2]
  · refine blk 7 [(.aload_n 0, 0, 0, 0), (.iload 4, 0, 0, 0), (.iconst 2, 0, 0, (nI 2)), (.isub, 0, 0, 0), (.i2l, 0, 0, 0), (.aload_n 0, 0, 0, 0), (.getfield 53, 7, 20, 0), (.bipush 9, 0, 0, (nI 9)), (.iload_n 1, 0, 0, 0), (.imul, 0, 0, 0), (.iload_n 2, 0, 0, 0), (.iadd, 0, 0, 0), (.iaload, 0, 0, 0), (.i2l, 0, 0, 0), (.lmul, 0, 0, 0), (.aload_n 0, 0, 0, 0), (.iload_n 1, 0, 0, 0), (.iload_n 3, 0, 0, 0)] [9 * a + b] (by decide +kernel) rfl (pc' := 29) (ls' := [some (.ref 72), some (.int (nI a)), some (.int (nI b)), some (.int (nI (n + h.length))), some (.int (psum (opnF n h) (n + h.length)))]) (st' := [.int (nI (n + h.length)), .int (nI a), .ref 72, .long ((((psum (opnF n h) (n + h.length)) - (nI 2)).toInt64) * ((M 86 (9 * a + b)).toInt64)), .ref 72]) (M' := M) rfl ⟨trivial, trivial, trivial, trivial, trivial, trivial, rfl, trivial, trivial, trivial, trivial, trivial, ⟨(by simp only [nI_add, pk_mul, nI_s1, Nat.reduceAdd, Nat.reduceMul]), (by show _ < 81; omega)⟩, trivial, trivial, trivial, trivial, trivial, trivial⟩ ?_
    refine g_callV (s_spansOf M (a := a) (k := n + h.length) (by omega) (by omega)) ok_X7_valueOf_X7_spansOf (by decide +kernel) rfl (c := 7) rfl (by decide) rfl (Nat.le_of_ble_eq_true rfl) (fun r M' h => ?_) rfl
    obtain ⟨hr, hM⟩ := h
    rw [hr, hM]
    show G _ 32 [some (.ref 72), some (.int (nI a)), some (.int (nI b)), some (.int (nI (n + h.length))), some (.int (psum (opnF n h) (n + h.length)))] [.int (psum (snF M a) (n + h.length)), .long ((((psum (opnF n h) (n + h.length)) - (nI 2)).toInt64) * ((M 86 (9 * a + b)).toInt64)), .ref 72] M _
    refine blk 7 [(.i2l, 0, 0, 0), (.lsub, 0, 0, 0), (.aload_n 0, 0, 0, 0), (.iload_n 2, 0, 0, 0), (.iload_n 3, 0, 0, 0)] [] (by decide +kernel) rfl (pc' := 37) (ls' := [some (.ref 72), some (.int (nI a)), some (.int (nI b)), some (.int (nI (n + h.length))), some (.int (psum (opnF n h) (n + h.length)))]) (st' := [.int (nI (n + h.length)), .int (nI b), .ref 72, .long (((((psum (opnF n h) (n + h.length)) - (nI 2)).toInt64) * ((M 86 (9 * a + b)).toInt64)) - ((psum (snF M a) (n + h.length)).toInt64)), .ref 72]) (M' := M) rfl ⟨trivial, trivial, trivial, trivial, trivial, trivial⟩ ?_
    refine g_callV (s_spansOf M (a := b) (k := n + h.length) (by omega) (by omega)) ok_X7_valueOf_X7_spansOf (by decide +kernel) rfl (c := 7) rfl (by decide) rfl (Nat.le_of_ble_eq_true rfl) (fun r M' h => ?_) rfl
    obtain ⟨hr, hM⟩ := h
    rw [hr, hM]
    show G _ 40 [some (.ref 72), some (.int (nI a)), some (.int (nI b)), some (.int (nI (n + h.length))), some (.int (psum (opnF n h) (n + h.length)))] [.int (psum (snF M b) (n + h.length)), .long (((((psum (opnF n h) (n + h.length)) - (nI 2)).toInt64) * ((M 86 (9 * a + b)).toInt64)) - ((psum (snF M a) (n + h.length)).toInt64)), .ref 72] M _
    refine blk 7 [(.i2l, 0, 0, 0), (.lsub, 0, 0, 0), (.putfield 191, 7, 38, 0), (.aload_n 0, 0, 0, 0), (.lconst 1, 0, 0, 0), (.putfield 195, 7, 39, 0), (.goto (40), 90, 0, 0)] [] (by decide +kernel) rfl (pc' := 90) (ls' := [some (.ref 72), some (.int (nI a)), some (.int (nI b)), some (.int (nI (n + h.length))), some (.int (psum (opnF n h) (n + h.length)))]) (st' := []) (M' := stm (stm M 72 38 (((((((psum (opnF n h) (n + h.length)) - (nI 2)).toInt64) * ((M 86 (9 * a + b)).toInt64)) - ((psum (snF M a) (n + h.length)).toInt64)) - ((psum (snF M b) (n + h.length)).toInt64)).toInt32)) 72 39 ((Int64.ofNat 1).toInt32)) rfl ⟨trivial, trivial, ⟨rfl, value_long hn5 hl hh hd hT ha hb' hab h1 h2 c1⟩, trivial, trivial, ⟨rfl, by decide +kernel⟩, trivial, trivial⟩ ?_
    have e := (mT_num hn5 hl hh hs hT ha hb' hab h1 h2).2 (fun z => c1 (hT.2.1.mpr z))
    refine g_return (by decide +kernel) rfl ⟨rfl, ?_⟩
    rw [lg_l2i_sub, lg_l2i_sub, lg_l2i_mul, lg_l2i_i2l, lg_l2i_i2l, lg_l2i_i2l, lg_l2i_i2l, e.1, ← e.2]
    rfl
