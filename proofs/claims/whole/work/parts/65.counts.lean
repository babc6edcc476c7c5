/-! how many letters a row has: merges keep it -/
theorem ncnt_full {f : Nat → Int32} {g : Int32} : ∀ m, (∀ k, k < m → ¬ f k = g) → ncnt f g m = m := by
  intro m
  induction m with
  | zero => intro _; rfl
  | succ m ih => intro h; rw [ncnt, ih (fun k hk => h k (by omega)), if_neg (h m (by omega))]
theorem uni_cnt {C F : Mem} {B : Nat} {P Q : Int32} {v p q m a : Nat} {r : Option Value} (hpq : p + q ≤ 60) (hm : m ≤ 60) (ha : a < 5) (hF : F (B + a) 1 = nI m) (h : uniP C B P Q v p q r F) : (¬ hb P a = 0 → ncnt (F (B + a + 5)) (-1) m = ncnt (C (B + a + 5)) (-1) p) ∧ (¬ hb Q a = 0 → ncnt (F (B + a + 5)) (-1) m = ncnt (C (B + a + 5)) (-1) q) := by
  obtain ⟨R, T, k, u1, u2, u3, u4, u5, u6, u7, u8, u9⟩ := h
  have e1 := u5.2.1
  have e2 := u5.2.2.1
  have hk := u5.1
  rw [wst_P] at e1
  rw [wst_Q] at e2
  constructor
  · intro c
    have g := u7 a ha c
    have e : m = k := (nI_eq (by omega) (by omega)).mp (hF.symm.trans g.1)
    subst e
    rw [ncnt_comp m g.2, e1]
  · intro c
    have g := u8 a ha c
    have e : m = k := (nI_eq (by omega) (by omega)).mp (hF.symm.trans g.1)
    subst e
    rw [ncnt_comp m g.2, e2]
theorem node_cnt {M N : Mem} {B n : Nat} {h : Hist} {wd : Nat → Nat} {ce : Nat → Nat → Nat → Int32} {wt : Nat → Int32} {ln : Nat → Nat} (hn5 : n ≤ 5) (hl : h.length < n) (hh : okH n h) (hwd : ∀ a, a < n + h.length → 1 ≤ wd a ∧ wd a ≤ 12 * sizF n h a) (hlf : ∀ i, i < n → wd i = ln i ∧ ∀ c, c < ln i → ce i i c = M (41 + i + 5) c) (hwo : ∀ i, i < n → wordOK M i (ln i)) (hmg : ∀ j, n ≤ j → j < n + h.length → mrgW N B n h wd ce wt j) : ∀ a, a < n + h.length → ∀ w, w < 5 → ¬ hb (nI (mskF n h a)) w = 0 → ncnt (ce a w) (-1) (wd a) = ln w := by
  intro a
  induction a using Nat.strongRecOn with
  | ind a ih =>
    intro ha w hw hx
    by_cases c : a < n
    · have e := (hist_leaf hn5 hl hh c).1
      rw [e, ← bit_nI (by omega)] at hx
      have e2 := (hb_bit_ne (by omega) hw).mp hx
      subst e2
      rw [(hlf w c).1]
      refine ncnt_full _ (fun k hk z => ?_)
      rw [(hlf w c).2 k hk] at z
      obtain ⟨x, hx, e3⟩ := (hwo w c).2.2.2 k hk
      rw [e3] at z
      exact (by decide : ∀ x, x < 4 → ¬ nI x = -1) x hx z
    · have hk := hist_ch hn5 hl hh (show n ≤ a by omega) ha
      have hz := hist_sz hn5 hl hh (show n ≤ a by omega) ha
      obtain ⟨C, F, c1, c2, c3, c4, c5⟩ := hmg a (by omega) ha
      have w1 := hwd (kidF n h a).1 (by omega)
      have w2 := hwd (kidF n h a).2 (by omega)
      have w3 := hwd a ha
      have s1 := (hist_small hn5 hl hh (a := (kidF n h a).1) (by omega)).2.2
      have s2 := (hist_small hn5 hl hh (a := (kidF n h a).2) (by omega)).2.2
      have g := c5 w hw hx
      have u := uni_cnt (by omega) (by omega) hw g.1 c4
      have e : ncnt (F (B + w + 5)) (-1) (wd a) = ncnt (ce a w) (-1) (wd a) := ncnt_congr (fun k hk => (g.2 k hk).1)
      rw [← e]
      rw [hk.2.2.2.2.1] at hx
      rcases (hb_or s1 s2 hw).mp hx with y | y
      · rw [u.1 y, ncnt_congr (fun k hk => ((c2 w hw y).2 k hk).1)]
        exact ih _ (by omega) (by omega) w hw y
      · rw [u.2 y, ncnt_congr (fun k hk => ((c3 w hw y).2 k hk).1)]
        exact ih _ (by omega) (by omega) w hw y
