/-! weights from 0 to 11, scores and prices within 20: the data of a merge are small -/
theorem ti_mul {a b : Int32} (h1 : -2147483648 ≤ a.toInt * b.toInt) (h2 : a.toInt * b.toInt ≤ 2147483647) : (a * b).toInt = a.toInt * b.toInt := by
  rw [Int32.toInt_mul]
  exact Int.bmod_eq_of_le (by omega) (by omega)
theorem mul_bd {x y X Y : Int} (h1 : 0 ≤ x) (h2 : x ≤ X) (h3 : -Y ≤ y) (h4 : y ≤ Y) : -(X * Y) ≤ x * y ∧ x * y ≤ X * Y := by
  have hY : 0 ≤ Y := by omega
  have hX : 0 ≤ X := by omega
  have a1 : x * y ≤ x * Y := Int.mul_le_mul_of_nonneg_left h4 h1
  have a2 : x * Y ≤ X * Y := Int.mul_le_mul_of_nonneg_right h2 hY
  have a3 : x * (-Y) ≤ x * y := Int.mul_le_mul_of_nonneg_left h3 h1
  rw [Int.mul_neg] at a3
  omega
/-- within 0 .. K -/
def ps (K : Int) (x : Int32) : Prop := 0 ≤ x.toInt ∧ x.toInt ≤ K
theorem ps_mul {a b : Int32} {X Y : Int} (ha : ps X a) (hb : ps Y b) (h : X * Y ≤ 1000000000) : ps (X * Y) (a * b) := by
  obtain ⟨a1, a2⟩ := ha
  obtain ⟨b1, b2⟩ := hb
  have hm := mul_bd a1 a2 (by omega : -Y ≤ b.toInt) b2
  have h0 := Int.mul_nonneg a1 b1
  unfold ps
  rw [ti_mul (by omega) (by omega)]
  exact ⟨h0, hm.2⟩
theorem sm_mul {a b : Int32} {X Y : Int} (ha : ps X a) (hb : sm Y b) (h : X * Y ≤ 1000000000) : sm (X * Y) (a * b) := by
  obtain ⟨a1, a2⟩ := ha
  obtain ⟨b1, b2⟩ := hb
  have hm := mul_bd a1 a2 b1 b2
  unfold sm
  rw [ti_mul (by omega) (by omega)]
  exact hm
theorem ps_sm {K : Int} {x : Int32} (h : ps K x) : sm K x := by unfold ps at h; unfold sm; omega
theorem psum_ps {f : Nat → Int32} {K : Int} {n : Nat} (hK : 0 ≤ K ∧ K ≤ 10000000) (hn : n ≤ 60) (h : ∀ j, j < n → ps K (f j)) : ps (n * K) (psum f n) := by
  induction n with
  | zero =>
    unfold ps psum
    have : (0 : Int32).toInt = 0 := by decide
    omega
  | succ n ih =>
    have i1 := ih (by omega) (fun j hj => h j (by omega))
    have i2 := h n (by omega)
    have hb : (n : Int) * K ≤ 60 * 10000000 := by
      have := mul_bd (x := n) (X := 60) (y := K) (Y := 10000000) (by omega) (by omega) (by omega) (by omega)
      omega
    unfold ps at *
    rw [psum, ti_add (by omega) (by omega) (by omega) (by omega)]
    have e : ((n + 1 : Nat) : Int) * K = n * K + K := by rw [Int.natCast_add, Int.add_mul]; simp
    omega
theorem psum_sm {f : Nat → Int32} {K : Int} {n : Nat} (hK : 0 ≤ K ∧ K ≤ 10000000) (hn : n ≤ 60) (h : ∀ j, j < n → sm K (f j)) : sm (n * K) (psum f n) := by
  induction n with
  | zero =>
    unfold sm psum
    have : (0 : Int32).toInt = 0 := by decide
    omega
  | succ n ih =>
    have i1 := ih (by omega) (fun j hj => h j (by omega))
    have i2 := h n (by omega)
    have hb : (n : Int) * K ≤ 60 * 10000000 := by
      have := mul_bd (x := n) (X := 60) (y := K) (Y := 10000000) (by omega) (by omega) (by omega) (by omega)
      omega
    unfold sm at *
    rw [psum, ti_add (by omega) (by omega) (by omega) (by omega)]
    have e : ((n + 1 : Nat) : Int) * K = n * K + K := by rw [Int.natCast_add, Int.add_mul]; simp
    omega
/-- weights, scores and prices are as the document bounds them -/
def dataOK (M : Mem) (v : Nat) : Prop := (∀ i, i < 5 → ps 11 (M v i)) ∧ (∀ k, k < 16 → sm 20 (M 3 k)) ∧ ps 20 (M 2 1) ∧ ps 20 (M 2 2)
theorem ps_0 {K : Int} (h : 0 ≤ K) : ps K 0 := by
  unfold ps
  have : (0 : Int32).toInt = 0 := by decide
  omega
theorem uR_bnd {M R : Mem} {B : Nat} {P Q : Int32} {v p q : Nat} (hd : dataOK M v) (h : uR M R B P Q v p q) : bnd R p q := by
  obtain ⟨d1, d2, d3, d4⟩ := hd
  obtain ⟨r1, r2, -, -, r5, r6, r7, r8, r9, rz⟩ := h
  have c5 : ((5 : Nat) : Int) * 11 = 55 := by decide
  have wP : ps 55 (R 5 2) := by
    rw [r1, ← c5]
    exact psum_ps (by omega) (by omega) (fun j hj => by unfold whF; split; exact ps_0 (by omega); exact d1 j hj)
  have wQ : ps 55 (R 8 2) := by
    rw [r2, ← c5]
    exact psum_ps (by omega) (by omega) (fun j hj => by unfold whF; split; exact ps_0 (by omega); exact d1 j hj)
  have e2 : R 2 = M 2 := rz 2 (by omega)
  have e3 : R 3 = M 3 := rz 3 (by omega)
  refine ⟨fun i j hi hj => ?_, fun i hi => ?_, fun j hj => ?_, ?_⟩
  · unfold mtF
    have hin : ∀ x, x < 4 → sm (4 * 60500) (psum (mtF2 R i j x) 4) := by
      intro x hx
      have := psum_sm (f := mtF2 R i j x) (K := 60500) (n := 4) (by omega) (by omega) (fun y hy => by
        unfold mtF2
        have a1 : ps 55 (R 6 (i * 4 + x)) := by
          rw [r5 i x hi hx, ← c5]
          exact psum_ps (by omega) (by omega) (fun k hk => by unfold letF; split; exact d1 k hk; exact ps_0 (by omega))
        have a2 : ps 55 (R 9 (j * 4 + y)) := by
          rw [r7 j y hj hy, ← c5]
          exact psum_ps (by omega) (by omega) (fun k hk => by unfold letF; split; exact d1 k hk; exact ps_0 (by omega))
        have a3 := ps_mul a1 a2 (by decide)
        have a4 : sm 20 (R 3 (x * 4 + y)) := by rw [e3]; exact d2 _ (by omega)
        exact sm_mul a3 a4 (by decide))
      exact this
    have := psum_sm (f := fun x => psum (mtF2 R i j x) 4) (K := 4 * 60500) (n := 4) (by omega) (by omega) hin
    exact sm_mono this (by decide)
  · have a1 : ps 55 (R 7 i) := by
      rw [r6 i hi, ← c5]
      exact psum_ps (by omega) (by omega) (fun k hk => by unfold preF; split; exact d1 k hk; exact ps_0 (by omega))
    have a2 : ps 20 (R 2 2) := by rw [e2]; exact d4
    exact sm_mono (ps_sm (ps_mul (ps_mul a2 a1 (by decide)) wQ (by decide))) (by decide)
  · have a1 : ps 55 (R 10 j) := by
      rw [r8 j hj, ← c5]
      exact psum_ps (by omega) (by omega) (fun k hk => by unfold preF; split; exact d1 k hk; exact ps_0 (by omega))
    have a2 : ps 20 (R 2 2) := by rw [e2]; exact d4
    exact sm_mono (ps_sm (ps_mul (ps_mul a2 a1 (by decide)) wP (by decide))) (by decide)
  · rw [r9]
    have a3 := ps_mul (ps_mul d3 wP (by decide)) wQ (by decide)
    unfold ps at a3
    omega
