/-! taking a word out and putting it back: what a turn is -/
/-- the words but i, as bits -/
def othF (n i : Nat) : Nat := 2 ^ n - 1 - 2 ^ i
theorem oth_eq {n i : Nat} (hn : n ≤ 5) (hi : i < n) : nI (2 ^ n - 1) &&& (bit i ^^^ (-1)) = nI (othF n i) := (by decide +kernel : ∀ n, n < 6 → ∀ i, i < n → nI (2 ^ n - 1) &&& (bit i ^^^ (-1)) = nI (othF n i)) n (by omega) i hi
theorem oth_hb {n i a : Nat} (hn : n ≤ 5) (hi : i < n) (ha : a < 5) : ¬ hb (nI (othF n i)) a = 0 ↔ a < n ∧ a ≠ i := (by decide +kernel : ∀ n, n < 6 → ∀ i, i < n → ∀ a, a < 5 → (¬ hb (nI (othF n i)) a = 0 ↔ a < n ∧ a ≠ i)) n (by omega) i hi a ha
def kpF (C : Mem) (B n i : Nat) : Nat → Bool := keepB C B (nI (othF n i))
theorem kp_iff {C : Mem} {B n i k : Nat} (hn : n ≤ 5) (hi : i < n) : kpF C B n i k = true ↔ ∃ a, a < n ∧ a ≠ i ∧ ¬ C (B + a + 5) k = -1 := by
  unfold kpF keepB
  rw [anyB_iff]
  constructor
  · rintro ⟨a, ha, h⟩
    have h := of_decide_eq_true h
    have g := (oth_hb hn hi ha).mp h.1
    exact ⟨a, g.1, g.2, h.2⟩
  · rintro ⟨a, ha, hne, h⟩
    exact ⟨a, by omega, decide_eq_true ⟨(oth_hb hn hi (by omega)).mpr ⟨ha, hne⟩, h⟩⟩
theorem kp_gap {C : Mem} {B n i k a : Nat} (hn : n ≤ 5) (hi : i < n) (ha : a < n) (hai : a ≠ i) (h : kpF C B n i k = false) : C (B + a + 5) k = -1 := by
  refine Decidable.not_not.mp (fun z => ?_)
  rw [(kp_iff hn hi).mpr ⟨a, ha, hai, z⟩] at h
  cases h
theorem bcnt_surj (p : Nat → Bool) : ∀ m c, c < bcnt p m → ∃ k, k < m ∧ p k = true ∧ bcnt p k = c := by
  intro m
  induction m with
  | zero => intro c h; exact absurd h (Nat.not_lt_zero c)
  | succ m ih =>
    intro c h
    rw [bcnt] at h
    by_cases e : c < bcnt p m
    · obtain ⟨k, h1, h2⟩ := ih c e
      exact ⟨k, by omega, h2⟩
    · cases hp : p m with
      | true => rw [hp, if_pos rfl] at h; exact ⟨m, by omega, hp, by omega⟩
      | false => rw [hp, if_neg (by decide)] at h; omega
theorem wsum_but {x : Nat → Nat} {i : Nat} : ∀ n, (∀ a, a < n → x a ≤ 12) → wsum (fun a => if decide (a ≠ i) = true then x a else 0) n ≤ 12 * n ∧ (i < n → wsum (fun a => if decide (a ≠ i) = true then x a else 0) n ≤ 12 * (n - 1)) := by
  intro n
  induction n with
  | zero => intro _; exact ⟨Nat.zero_le _, fun h => absurd h (Nat.not_lt_zero _)⟩
  | succ n ih =>
    intro h
    have j := ih (fun a ha => h a (by omega))
    have hx := h n (by omega)
    rw [wsum]
    by_cases e : n = i
    · rw [if_neg (by simp [e])]
      omega
    · rw [if_pos (decide_eq_true e)]
      exact ⟨by omega, fun hi => by have := j.2 (by omega); omega⟩
/-- a sheet of n rows, W wide, whose row i holds ln i letters; the weights; the tree's root -/
def rowsOK (C : Mem) (B n W : Nat) (ln : Nat → Nat) : Prop := W ≤ 60 ∧ ∀ i, i < n → C (B + i) 1 = nI W ∧ (∀ c, c < W → okc (C (B + i + 5) c)) ∧ ncnt (C (B + i + 5)) (-1) W = ln i
def layC (C : Mem) (B n W : Nat) (ln ws : Nat → Nat) : Prop := rowsOK C B n W ln ∧ wtOK n ws ∧ (∀ i, i < n → C 24 i = nI (ws i)) ∧ (∀ i, i < 5 → ps 11 (C 24 i)) ∧ C 16 10 = nI (2 * n - 1) ∧ C 20 (2 * n - 2) = nI (2 ^ n - 1)
def totC (C : Mem) (B W n : Nat) : Int32 := psum (fun i => psum (sopF C B W i) (n - (i + 1))) n
/-- a word is taken out of the rows at B and put back at B2: T before the merge, F after it -/
def turnW (C : Mem) (B B2 n W : Nat) (ln : Nat → Nat) (i : Nat) (T F : Mem) (r0 : Option Value) (m : Nat) : Prop :=
  (∀ a, a < n → a ≠ i → ∀ c, c < W → kpF C B n i c = true → T (B2 + a + 5) (bcnt (kpF C B n i) c) = C (B + a + 5) c) ∧ (∀ c, c < ln i → T (B2 + i + 5) c = C (41 + i + 5) c) ∧ (∀ z, z = 2 ∨ z = 3 ∨ z = 24 → T z = C z) ∧ uniP T B2 (nI (othF n i)) (bit i) 24 (bcnt (kpF C B n i) W) (ln i) r0 F ∧ (∀ a, a < n → F (B2 + a) 1 = nI m) ∧ m ≤ 60 ∧ ∀ z, z = 2 ∨ z = 3 ∨ z = 24 → F z = C z
theorem kp_le {C : Mem} {B n W i : Nat} {ln : Nat → Nat} (hn : n ≤ 5) (hi : i < n) (hln : ∀ a, a < n → ln a ≤ 12) (h : rowsOK C B n W ln) : bcnt (kpF C B n i) W ≤ 12 * (n - 1) := by
  have k := keep_le (kp := kpF C B n i) (r := fun a => C (B + a + 5)) (t := fun a => decide (a ≠ i)) (n := n) W (fun k _ hk => by
    obtain ⟨a, h1, h2, h3⟩ := (kp_iff hn hi).mp hk
    exact ⟨a, h1, decide_eq_true h2, h3⟩)
  refine Nat.le_trans k ((wsum_but (x := fun a => ncnt (C (B + a + 5)) (-1) W) n (fun a ha => ?_)).2 hi)
  show ncnt (C (B + a + 5)) (-1) W ≤ 12
  rw [(h.2 a ha).2.2]
  exact hln a ha
theorem turn_okP {C T : Mem} {B B2 n W i : Nat} {ln : Nat → Nat} (hn : n ≤ 5) (hi : i < n) (h : rowsOK C B n W ln) (hT : ∀ a, a < n → a ≠ i → ∀ c, c < W → kpF C B n i c = true → T (B2 + a + 5) (bcnt (kpF C B n i) c) = C (B + a + 5) c) : ∀ a k, a < 5 → ¬ hb (nI (othF n i)) a = 0 → k < bcnt (kpF C B n i) W → okc (T (B2 + a + 5) k) := by
  intro a k ha hx hk
  have g := (oth_hb hn hi ha).mp hx
  obtain ⟨c, h1, h2, h3⟩ := bcnt_surj _ _ _ hk
  rw [← h3, hT a g.1 g.2 c h1 h2]
  exact (h.2 a g.1).2.1 c h1
theorem turn_okQ {C T : Mem} {B2 n i : Nat} {ln : Nat → Nat} (hn : n ≤ 5) (hi : i < n) (hw : wordOK C i (ln i)) (hT : ∀ c, c < ln i → T (B2 + i + 5) c = C (41 + i + 5) c) : ∀ a k, a < 5 → ¬ hb (bit i) a = 0 → k < ln i → okc (T (B2 + a + 5) k) := by
  intro a k ha hx hk
  rw [(hb_bit_ne (by omega) ha).mp hx, hT k hk]
  exact Or.inr (hw.2.2.2 k hk)
theorem turn_dis {n i : Nat} (hn : n ≤ 5) (hi : i < n) : ∀ a, a < 5 → ¬ hb (nI (othF n i)) a = 0 → ¬ ¬ hb (bit i) a = 0 := fun a ha h1 h2 => ((oth_hb hn hi ha).mp h1).2 ((hb_bit_ne (by omega) ha).mp h2)
theorem turn_all {n i a : Nat} (hn : n ≤ 5) (hi : i < n) (ha : a < n) : ¬ hb (nI (othF n i)) a = 0 ∨ ¬ hb (bit i) a = 0 := by
  by_cases e : a = i
  · exact Or.inr ((hb_bit_ne (by omega) (by omega)).mpr e)
  · exact Or.inl ((oth_hb hn hi (by omega)).mpr ⟨ha, e⟩)
/-- the rows after a turn -/
theorem turn_rows {C T F : Mem} {B B2 n W i m : Nat} {ln : Nat → Nat} {r0 : Option Value} (hn : n ≤ 5) (hi : i < n) (hwo : ∀ a, a < n → wordOK C a (ln a)) (h : rowsOK C B n W ln) (ht : turnW C B B2 n W ln i T F r0 m) : rowsOK F B2 n m ln := by
  obtain ⟨t1, t2, t3, t4, t5, t6, t7⟩ := ht
  have hp := kp_le hn hi (fun a ha => (hwo a ha).2.2.1) h
  have hq := (hwo i hi).2.2.1
  obtain ⟨x, m', g1, g2, g3, g4, g5, g6⟩ := uni_ok (turn_okP hn hi h t1) (turn_okQ hn hi (hwo i hi) t2) t4
  refine ⟨t6, fun a ha => ?_⟩
  have e : m' = m := (nI_eq (by omega) (by omega)).mp ((g5 a (by omega) (turn_all hn hi ha)).1.symm.trans (t5 a ha))
  subst e
  refine ⟨t5 a ha, (g5 a (by omega) (turn_all hn hi ha)).2, ?_⟩
  have u := uni_cnt (by omega) (by omega) (show a < 5 by omega) (t5 a ha) t4
  by_cases c : a = i
  · subst c
    rw [u.2 ((hb_bit_ne (by omega) (by omega)).mpr rfl)]
    refine ncnt_full _ (fun k hk z => ?_)
    rw [t2 k hk] at z
    obtain ⟨y, hy, e3⟩ := (hwo a ha).2.2.2 k hk
    rw [e3] at z
    exact (by decide : ∀ x, x < 4 → ¬ nI x = -1) y hy z
  · rw [u.1 ((oth_hb hn hi (by omega)).mpr ⟨ha, c⟩), nc_keep W (fun k hk hkp => t1 a ha c k hk hkp) (fun k hk hkp => kp_gap hn hi ha c hkp)]
    exact (h.2 a ha).2.2
/-- the scores of the other words among themselves stay -/
theorem turn_same {C T F : Mem} {B B2 n W i m a b : Nat} {ln : Nat → Nat} {r0 : Option Value} {sc : Nat → Int32} {op ex : Int32} (hn : n ≤ 5) (hi : i < n) (hwo : ∀ a, a < n → wordOK C a (ln a)) (h : rowsOK C B n W ln) (ht : turnW C B B2 n W ln i T F r0 m) (ha : a < n) (hb' : b < n) (hai : a ≠ i) (hbi : b ≠ i) : sbF sc op ex (F (B2 + a + 5)) (F (B2 + b + 5)) m = sbF sc op ex (C (B + a + 5)) (C (B + b + 5)) W := by
  obtain ⟨t1, t2, t3, t4, t5, t6, t7⟩ := ht
  have hp := kp_le hn hi (fun a ha => (hwo a ha).2.2.1) h
  have hq := (hwo i hi).2.2.1
  obtain ⟨R, U, k, u1, u2, u3, u4, u5, u6, u7, u8, u9⟩ := t4
  have e1 := u5.2.1
  have hk := u5.1
  rw [wst_P] at e1
  have ga := u7 a (by omega) ((oth_hb hn hi (by omega)).mpr ⟨ha, hai⟩)
  have gb := u7 b (by omega) ((oth_hb hn hi (by omega)).mpr ⟨hb', hbi⟩)
  have e : k = m := (nI_eq (by omega) (by omega)).mp (ga.1.symm.trans (t5 a ha))
  subst e
  rw [sb_comp k ga.2 gb.2, e1, sb_keep W (fun c hc hkp => ⟨t1 a ha hai c hc hkp, t1 b hb' hbi c hc hkp⟩) (fun c hc hkp => ⟨kp_gap hn hi ha hai hkp, kp_gap hn hi hb' hbi hkp⟩)]
/-- the total as a whole number -/
def totI (C : Mem) (B W n : Nat) (ws : Nat → Nat) : Int := totZ ws (fun a b => (sbF (C 3) (C 2 1) (C 2 2) (C (B + a + 5)) (C (B + b + 5)) W).1.toInt) n
theorem pair_bd {C : Mem} {B n W a b : Nat} {ln : Nat → Nat} (hln : ∀ a, a < n → ln a ≤ 12) (h : rowsOK C B n W ln) (hsc : ∀ k, k < 16 → sm 20 (C 3 k)) (ho : ps 20 (C 2 1)) (he : ps 20 (C 2 2)) (ha : a < n) (hb' : b < n) : -960 ≤ (sbF (C 3) (C 2 1) (C 2 2) (C (B + a + 5)) (C (B + b + 5)) W).1.toInt ∧ (sbF (C 3) (C 2 1) (C 2 2) (C (B + a + 5)) (C (B + b + 5)) W).1.toInt ≤ 240 := by
  have g := sb_bd (x := C (B + a + 5)) (y := C (B + b + 5)) hsc ho he W h.1 (fun k hk => ⟨(h.2 a ha).2.1 k hk, (h.2 b hb').2.1 k hk⟩)
  rw [(h.2 a ha).2.2, (h.2 b hb').2.2] at g
  have l1 := hln a ha
  have l2 := hln b hb'
  omega
theorem totC_int {C : Mem} {B n W : Nat} {ln ws : Nat → Nat} (hn : n ≤ 5) (hln : ∀ a, a < n → ln a ≤ 12) (h : rowsOK C B n W ln) (hsc : ∀ k, k < 16 → sm 20 (C 3 k)) (ho : ps 20 (C 2 1)) (he : ps 20 (C 2 2)) (hws : wtOK n ws) (hw : ∀ i, i < n → C 24 i = nI (ws i)) : (totC C B W n).toInt = totI C B W n ws ∧ -960 * (prsN ((List.range n).map ws) : Int) ≤ totI C B W n ws ∧ totI C B W n ws ≤ 240 * (prsN ((List.range n).map ws) : Int) := by
  have pb := fun a b (hab : a < b) (hb' : b < n) => pair_bd hln h hsc ho he (show a < n by omega) hb'
  refine ⟨?_, ?_⟩
  · exact tot_int (wv := C 24) (S := fun a b => (sbF (C 3) (C 2 1) (C 2 2) (C (B + a + 5)) (C (B + b + 5)) W).1) hn (fun i hi => ⟨hw i hi, (hws i hi).2.1⟩) (fun a b hab hb' => by have := pb a b hab hb'; unfold sm; omega)
  · exact totZ_bd hn pb
/-- a turn that raises the total raises it by the word's weight at least -/
theorem turn_rise {C T F : Mem} {B B2 n W i m : Nat} {ln ws : Nat → Nat} {r0 : Option Value} (hn : n ≤ 5) (hi : i < n) (hwo : ∀ a, a < n → wordOK C a (ln a)) (h : rowsOK C B n W ln) (ht : turnW C B B2 n W ln i T F r0 m) (hr : totI C B W n ws < totI F B2 m n ws) : totI C B W n ws + (ws i : Int) ≤ totI F B2 m n ws := by
  have hd : ((ws i : Nat) : Int) ∣ totI F B2 m n ws - totI C B W n ws := totZ_dvd (fun a b hab hb' hai hbi => by
    rw [ht.2.2.2.2.2.2 3 (by omega), ht.2.2.2.2.2.2 2 (by omega), turn_same hn hi hwo h ht (by omega) hb' hai hbi])
  have := Int.le_of_dvd (by omega) hd
  omega
