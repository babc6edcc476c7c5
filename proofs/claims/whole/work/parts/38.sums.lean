/-! sums: over letters as over rows -/
theorem psum_add (f g : Nat → Int32) (n : Nat) : psum (fun j => f j + g j) n = psum f n + psum g n := by
  induction n with
  | zero => rfl
  | succ n ih =>
    rw [psum, psum, psum, ih, Int32.add_assoc, Int32.add_assoc]
    congr 1
    rw [← Int32.add_assoc, Int32.add_comm (psum g n), Int32.add_assoc]
theorem psum_mulL (c : Int32) (f : Nat → Int32) (n : Nat) : c * psum f n = psum (fun j => c * f j) n := by
  induction n with
  | zero => exact Int32.mul_zero
  | succ n ih => rw [psum, psum, Int32.mul_add, ih]
theorem psum_mulR (c : Int32) (f : Nat → Int32) (n : Nat) : psum f n * c = psum (fun j => f j * c) n := by
  induction n with
  | zero => exact Int32.zero_mul
  | succ n ih => rw [psum, psum, Int32.add_mul, ih]
theorem psum_comm (f : Nat → Nat → Int32) (n m : Nat) : psum (fun i => psum (fun j => f i j) m) n = psum (fun j => psum (fun i => f i j) n) m := by
  induction n with
  | zero =>
    rw [psum]
    exact (psum_zero (fun j _ => rfl)).symm
  | succ n ih =>
    rw [psum, ih, ← psum_add]
    rfl
theorem psum_one {f : Nat → Int32} {n k : Nat} (hk : k < n) (h : ∀ j, j < n → j ≠ k → f j = 0) : psum f n = f k := by
  induction n with
  | zero => omega
  | succ n ih =>
    rw [psum]
    by_cases e : k = n
    · subst e
      rw [psum_zero (fun j hj => h j (by omega) (by omega)), Int32.zero_add]
    · rw [ih (by omega) (fun j hj hn => h j (by omega) hn), h n (by omega) (by omega), Int32.add_zero]
theorem mul3 (a b c : Int32) : a * b * c = c * a * b := by rw [Int32.mul_comm (a * b) c, Int32.mul_assoc]
/-- the groups of the class (memory C) and of the reference (memory D) are the same -/
def grp (C D : Mem) (B : Nat) (P Q : Int32) (v p q : Nat) : Prop := D 72 25 = P ∧ D 72 26 = Q ∧ (∀ a k, a < 5 → ¬ hb P a = 0 → k < p → D 90 (60 * a + k) = C (B + a + 5) k) ∧ (∀ a k, a < 5 → ¬ hb Q a = 0 → k < q → D 91 (60 * a + k) = C (B + a + 5) k) ∧ (∀ a, a < 5 → (¬ hb P a = 0 ∨ ¬ hb Q a = 0) → D 39 a = C v a) ∧ (∀ k, k < 16 → D 77 k = C 3 k) ∧ D 72 6 = C 2 1 ∧ D 72 7 = C 2 2
theorem mt_bt {C D R : Mem} {B : Nat} {P Q : Int32} {v p q i j : Nat} (hg : grp C D B P Q v p q) (hR : uR C R B P Q v p q) (hcP : ∀ a k, a < 5 → ¬ hb P a = 0 → k < p → okc (C (B + a + 5) k)) (hcQ : ∀ a k, a < 5 → ¬ hb Q a = 0 → k < q → okc (C (B + a + 5) k)) (hi : i < p) (hj : j < q) : mtF R i j = btF D i j := by
  obtain ⟨g1, g2, g3, g4, g5, g6, g7, g8⟩ := hg
  obtain ⟨-, -, -, -, r5, -, r7, -, -, rz⟩ := hR
  have e3 : R 3 = C 3 := rz 3 (by omega)
  have hin : ∀ x, x < 4 → ∀ y, y < 4 → mtF2 R i j x y = psum (fun a => psum (fun b => letF C B P v i x a * letF C B Q v j y b * C 3 (x * 4 + y)) 5) 5 := by
    intro x hx y hy
    unfold mtF2
    rw [r5 i x hi hx, r7 j y hj hy, e3, psum_mulR, psum_mulR]
    refine psum_congr (fun a _ => ?_)
    rw [psum_mulL, psum_mulR]
  have h1 : mtF R i j = psum (fun x => psum (fun y => psum (fun a => psum (fun b => letF C B P v i x a * letF C B Q v j y b * C 3 (x * 4 + y)) 5) 5) 4) 4 := by
    unfold mtF
    exact psum_congr (fun x hx => psum_congr (fun y hy => hin x hx y hy))
  have h2 : ∀ x, psum (fun y => psum (fun a => psum (fun b => letF C B P v i x a * letF C B Q v j y b * C 3 (x * 4 + y)) 5) 5) 4 = psum (fun a => psum (fun b => psum (fun y => letF C B P v i x a * letF C B Q v j y b * C 3 (x * 4 + y)) 4) 5) 5 := by
    intro x
    rw [psum_comm]
    refine psum_congr (fun a _ => ?_)
    rw [psum_comm]
  rw [h1, psum_congr (fun x _ => h2 x), psum_comm]
  unfold btF
  refine psum_congr (fun a ha => ?_)
  rw [psum_comm]
  refine psum_congr (fun b hb' => ?_)
  unfold baF
  rw [g1, g2]
  by_cases cP : hb P a = 0
  · rw [if_neg (fun z => z.1 cP)]
    refine psum_zero (fun x _ => psum_zero (fun y _ => ?_))
    unfold letF
    rw [if_neg (fun z => z.1 cP), Int32.zero_mul, Int32.zero_mul]
  · by_cases cQ : hb Q b = 0
    · rw [if_neg (fun z => z.2.1 cQ)]
      refine psum_zero (fun x _ => psum_zero (fun y _ => ?_))
      have : letF C B Q v j y b = 0 := by unfold letF; rw [if_neg (fun z => z.1 cQ)]
      rw [this, Int32.mul_zero, Int32.zero_mul]
    · rw [g3 a i ha cP hi, g4 b j hb' cQ hj]
      by_cases nP : C (B + a + 5) i = -1
      · rw [if_neg (fun z => z.2.2.1 nP)]
        refine psum_zero (fun x hx => psum_zero (fun y _ => ?_))
        unfold letF
        rw [if_neg (fun z => nI_nm1 (x := x) (by omega) (nP.symm.trans z.2)), Int32.zero_mul, Int32.zero_mul]
      · by_cases nQ : C (B + b + 5) j = -1
        · rw [if_neg (fun z => z.2.2.2 nQ)]
          refine psum_zero (fun x _ => psum_zero (fun y hy => ?_))
          have : letF C B Q v j y b = 0 := by unfold letF; rw [if_neg (fun z => nI_nm1 (x := y) (by omega) (nQ.symm.trans z.2))]
          rw [this, Int32.mul_zero, Int32.zero_mul]
        · rw [if_pos ⟨cP, cQ, nP, nQ⟩]
          have ex := okc_cd (hcP a i ha cP hi) nP
          have ey := okc_cd (hcQ b j hb' cQ hj) nQ
          generalize hx : cd (C (B + a + 5) i) = x at *
          generalize hy : cd (C (B + b + 5) j) = y at *
          rw [psum_one (k := x) ex.2 (fun z hz hne => psum_zero (fun y' _ => by
            unfold letF
            rw [if_neg (fun w => hne ((nI_eq (by omega) (by omega)).mp (w.2.symm.trans ex.1))), Int32.zero_mul, Int32.zero_mul]))]
          rw [psum_one (k := y) ey.2 (fun z hz hne => by
            have : letF C B Q v j z b = 0 := by unfold letF; rw [if_neg (fun w => hne ((nI_eq (by omega) (by omega)).mp (w.2.symm.trans ey.1)))]
            rw [this, Int32.mul_zero, Int32.zero_mul])]
          have l1 : letF C B P v i x a = C v a := by unfold letF; rw [if_pos ⟨cP, ex.1⟩]
          have l2 : letF C B Q v j y b = C v b := by unfold letF; rw [if_pos ⟨cQ, ey.1⟩]
          rw [l1, l2, g6 (4 * x + y) (by omega), g5 a ha (Or.inl cP), g5 b hb' (Or.inr cQ), mul3, Nat.mul_comm x 4]
theorem pA_same {C D : Mem} {B : Nat} {P Q : Int32} {v p q : Nat} (hg : grp C D B P Q v p q) : psum (whF D (D 72 25) 39) 5 = psum (whF C P v) 5 ∧ psum (whF D (D 72 26) 39) 5 = psum (whF C Q v) 5 := by
  obtain ⟨g1, g2, g3, g4, g5, g6, g7, g8⟩ := hg
  rw [g1, g2]
  refine ⟨psum_congr (fun a ha => ?_), psum_congr (fun a ha => ?_)⟩
  · unfold whF
    by_cases c : hb P a = 0
    · rw [if_pos c, if_pos c]
    · rw [if_neg c, if_neg c, g5 a ha (Or.inl c)]
  · unfold whF
    by_cases c : hb Q a = 0
    · rw [if_pos c, if_pos c]
    · rw [if_neg c, if_neg c, g5 a ha (Or.inr c)]
/-- THE DATA ARE THE SAME -/
theorem same_data {C D R T U R' : Mem} {B : Nat} {P Q : Int32} {v p q : Nat} (hg : grp C D B P Q v p q) (hR : uR C R B P Q v p q) (hT : keepT R T) (hR' : prepP D p q none R') (hU : keepM R' U) (hcP : ∀ a k, a < 5 → ¬ hb P a = 0 → k < p → okc (C (B + a + 5) k)) (hcQ : ∀ a k, a < 5 → ¬ hb Q a = 0 → k < q → okc (C (B + a + 5) k)) : sameD T U p q (psum (whF D (D 72 25) 39) 5) (psum (whF D (D 72 26) 39) 5) := by
  have hA := pA_same hg
  obtain ⟨-, d1, d2, d3, dz⟩ := hR'
  have u72 : U 72 = D 72 := (hU 72 (by decide)).trans (dz 72 (by omega))
  have t2 : T 2 = C 2 := (hT.2.2 2 (by decide) (by omega)).trans (hR.2.2.2.2.2.2.2.2.2 2 (by omega))
  refine ⟨fun i j hi hj => ?_, fun i hi => ?_, fun j hj => ?_, ?_⟩
  · rw [mtF_congr (hT.2.2 6 (by decide) (by omega)) (hT.2.2 9 (by decide) (by omega)) (hT.2.2 3 (by decide) (by omega)), hU 93 (by decide), d3 i j hi hj]
    exact mt_bt hg hR hcP hcQ hi hj
  · obtain ⟨g1, g2, g3, g4, g5, g6, g7, g8⟩ := hg
    rw [t2, hT.2.2 7 (by decide) (by omega), hT.2.2 8 (by decide) (by omega), hR.2.2.2.2.2.1 i hi, hR.2.1, u72, hU 94 (by decide), d1 i hi, g8, hA.2]
    have e : psum (preF C B P v i) 5 = psum (pmF D 25 90 i) 5 := by
      refine psum_congr (fun a ha => ?_)
      unfold preF pmF
      rw [g1]
      by_cases c : hb P a = 0
      · rw [if_neg (fun z => z.1 c), if_neg (fun z => z.1 c)]
      · rw [g3 a i ha c hi, g5 a ha (Or.inl c)]
    rw [e]
  · obtain ⟨g1, g2, g3, g4, g5, g6, g7, g8⟩ := hg
    rw [t2, hT.2.2 10 (by decide) (by omega), hT.2.2 5 (by decide) (by omega), hR.2.2.2.2.2.2.2.1 j hj, hR.1, u72, hU 95 (by decide), d2 j hj, g8, hA.1]
    have e : psum (preF C B Q v j) 5 = psum (pmF D 26 91 j) 5 := by
      refine psum_congr (fun a ha => ?_)
      unfold preF pmF
      rw [g2]
      by_cases c : hb Q a = 0
      · rw [if_neg (fun z => z.1 c), if_neg (fun z => z.1 c)]
      · rw [g4 a j ha c hj, g5 a ha (Or.inr c)]
    rw [e]
  · rw [hT.2.1, hR.2.2.2.2.2.2.2.2.1, hR.1, hR.2.1, u72, hg.2.2.2.2.2.2.1, hA.1, hA.2]
