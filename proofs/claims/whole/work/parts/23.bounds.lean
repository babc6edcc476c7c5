/-! bounds: with small data the tables stay small, and no step is taken that cannot be -/
theorem ti_add {a b : Int32} (h1 : -1073741824 ≤ a.toInt) (h2 : a.toInt ≤ 1073741823) (h3 : -1073741824 ≤ b.toInt) (h4 : b.toInt ≤ 1073741823) : (a + b).toInt = a.toInt + b.toInt := by
  rw [Int32.toInt_add]
  exact Int.bmod_eq_of_le (by omega) (by omega)
theorem ti_sub {a b : Int32} (h1 : -1073741824 ≤ a.toInt) (h2 : a.toInt ≤ 1073741823) (h3 : -1073741823 ≤ b.toInt) (h4 : b.toInt ≤ 1073741823) : (a - b).toInt = a.toInt - b.toInt := by
  rw [Int32.toInt_sub]
  exact Int.bmod_eq_of_le (by omega) (by omega)
def sm (K : Int) (x : Int32) : Prop := -K ≤ x.toInt ∧ x.toInt ≤ K
theorem sm_mono {K L : Int} {x : Int32} (h : sm K x) (hk : K ≤ L) : sm L x := by unfold sm at *; omega
theorem never_ti : (-1000000000 : Int32).toInt = -1000000000 := by decide
/-- the table's entries from a place on are what they should be -/
def tb (M : Mem) (p q : Nat) (D : Nat → Nat → Prop) : Prop := ∀ i j l, i ≤ p → j ≤ q → l < 3 → D i j → M (12 + l) (i * (q + 1) + j) = dpv M p q i j l
def bnd (M : Mem) (p q : Nat) : Prop := (∀ i j, i < p → j < q → sm 1000000 (mtF M i j)) ∧ (∀ i, i < p → sm 1000000 (M 2 2 * M 7 i * M 8 2)) ∧ (∀ j, j < q → sm 1000000 (M 2 2 * M 10 j * M 5 2)) ∧ 0 ≤ (M 4 6).toInt ∧ (M 4 6).toInt ≤ 1000000
/-- a choice among three, each small or never: what it takes is small -/
theorem ch_ok {b L R op : Int32} {l : Nat} {B C : Int} {cb cl cr : Prop} (hl : l ≤ 2) (hC : 0 ≤ B ∧ B + 1000000 ≤ C ∧ C ≤ 400000000) (ho : 0 ≤ op.toInt ∧ op.toInt ≤ 1000000) (hb : (cb ∧ sm B b) ∨ (¬ cb ∧ b = -1000000000)) (hL : (cl ∧ sm B L) ∨ (¬ cl ∧ L = -1000000000)) (hR : (cr ∧ sm B R) ∨ (¬ cr ∧ R = -1000000000)) (hcb : cb ↔ cl ∧ cr) (hany : cl ∨ cr) :
    sm C (waV b L R op l (chV b L R op l)) ∧ (chV b L R op l = 0 → cb) ∧ (chV b L R op l = 1 → cl) ∧ (chV b L R op l = 2 → cr) := by
  have nv := never_ti
  have eL : (L - op).toInt = L.toInt - op.toInt := by
    refine ti_sub ?_ ?_ (by omega) (by omega)
    · rcases hL with ⟨_, h⟩ | ⟨_, h⟩
      · unfold sm at h; omega
      · rw [h, nv]; omega
    · rcases hL with ⟨_, h⟩ | ⟨_, h⟩
      · unfold sm at h; omega
      · rw [h, nv]; omega
  have eR : (R - op).toInt = R.toInt - op.toInt := by
    refine ti_sub ?_ ?_ (by omega) (by omega)
    · rcases hR with ⟨_, h⟩ | ⟨_, h⟩
      · unfold sm at h; omega
      · rw [h, nv]; omega
    · rcases hR with ⟨_, h⟩ | ⟨_, h⟩
      · unfold sm at h; omega
      · rw [h, nv]; omega
  have w1 : (cl ∧ sm C (waV b L R op l 1)) ∨ (¬ cl ∧ (waV b L R op l 1).toInt ≤ -1000000000) := by
    unfold waV
    rw [if_neg (by decide), if_pos rfl]
    split
    · rcases hL with ⟨h1, h⟩ | ⟨h1, h⟩
      · exact Or.inl ⟨h1, sm_mono h (by omega)⟩
      · exact Or.inr ⟨h1, by rw [h, nv]; omega⟩
    · rcases hL with ⟨h1, h⟩ | ⟨h1, h⟩
      · refine Or.inl ⟨h1, ?_⟩
        unfold sm at *
        rw [eL]; omega
      · refine Or.inr ⟨h1, ?_⟩
        rw [eL, h, nv]; omega
  have w2 : (cr ∧ sm C (waV b L R op l 2)) ∨ (¬ cr ∧ (waV b L R op l 2).toInt ≤ -1000000000) := by
    unfold waV
    rw [if_neg (by decide), if_neg (by decide)]
    split
    · rcases hR with ⟨h1, h⟩ | ⟨h1, h⟩
      · exact Or.inl ⟨h1, sm_mono h (by omega)⟩
      · exact Or.inr ⟨h1, by rw [h, nv]; omega⟩
    · rcases hR with ⟨h1, h⟩ | ⟨h1, h⟩
      · refine Or.inl ⟨h1, ?_⟩
        unfold sm at *
        rw [eR]; omega
      · refine Or.inr ⟨h1, ?_⟩
        rw [eR, h, nv]; omega
  have w0 : waV b L R op l 0 = b := by unfold waV; rw [if_pos rfl]
  generalize h1 : waV b L R op l 1 = x at w1
  generalize h2 : waV b L R op l 2 = y at w2
  have hx : x < y ↔ x.toInt < y.toInt := Int32.lt_iff_toInt_lt
  have hbx : b < x ↔ b.toInt < x.toInt := Int32.lt_iff_toInt_lt
  have hby : b < y ↔ b.toInt < y.toInt := Int32.lt_iff_toInt_lt
  unfold sm at *
  have hc : (chV b L R op l = 0 ∧ ¬ b < x ∧ ¬ b < y) ∨ (chV b L R op l = 1 ∧ ¬ (¬ b < x ∧ ¬ b < y) ∧ ¬ x < y) ∨ (chV b L R op l = 2 ∧ ¬ (¬ b < x ∧ ¬ b < y) ∧ x < y) := by
    unfold chV
    rw [h1, h2]
    by_cases c1 : ¬ b < x ∧ ¬ b < y
    · rw [if_pos c1]; exact Or.inl ⟨rfl, c1⟩
    · rw [if_neg c1]
      by_cases c2 : ¬ x < y
      · rw [if_pos c2]; exact Or.inr (Or.inl ⟨rfl, c1, c2⟩)
      · rw [if_neg c2]; exact Or.inr (Or.inr ⟨rfl, c1, Decidable.not_not.mp c2⟩)
  simp only [hbx, hby, hx] at hc
  rcases hc with ⟨e, c1, c2⟩ | ⟨e, c1, c2⟩ | ⟨e, c1, c2⟩
  · rw [e, w0]
    have hcb2 : cb := by
      rcases hb with ⟨h, _⟩ | ⟨_, h⟩
      · exact h
      · exfalso
        have hbt : b.toInt = -1000000000 := by rw [h, nv]
        rcases w1 with ⟨_, w1⟩ | ⟨n1, w1⟩
        · omega
        · rcases w2 with ⟨_, w2⟩ | ⟨n2, w2⟩
          · omega
          · exact hany.elim n1 n2
    refine ⟨?_, fun _ => hcb2, fun h => absurd h (by decide), fun h => absurd h (by decide)⟩
    rcases hb with ⟨_, h⟩ | ⟨n, _⟩
    · omega
    · exact absurd hcb2 n
  · rw [e, h1]
    have hcl : cl := by
      rcases w1 with ⟨h, _⟩ | ⟨n1, w1⟩
      · exact h
      · exfalso
        rcases w2 with ⟨_, w2⟩ | ⟨n2, w2⟩
        · omega
        · exact hany.elim n1 n2
    refine ⟨?_, fun h => absurd h (by decide), fun _ => hcl, fun h => absurd h (by decide)⟩
    rcases w1 with ⟨_, h⟩ | ⟨n, _⟩
    · exact h
    · exact absurd hcl n
  · rw [e, h2]
    have hcr : cr := by
      rcases w2 with ⟨h, _⟩ | ⟨n2, w2⟩
      · exact h
      · exfalso
        rcases w1 with ⟨_, w1⟩ | ⟨n1, w1⟩
        · omega
        · exact hany.elim n1 n2
    refine ⟨?_, fun h => absurd h (by decide), fun h => absurd h (by decide), fun _ => hcr⟩
    rcases w2 with ⟨_, h⟩ | ⟨n, _⟩
    · exact h
    · exact absurd hcr n
theorem lk_sm {M : Mem} {p q i j : Nat} {B : Int} (hB : bnd M p q) (hi : i ≤ p) (hj : j ≤ q) (h0 : 0 ≤ B ∧ B ≤ 300000000) (ht : ∀ a b l, a ≤ p → b ≤ q → l < 3 → i + j < a + b → sm B (M (12 + l) (a * (q + 1) + b))) :
    ((i < p ∧ j < q) ∧ sm (B + 1000000) (lkB M p q i j) ∨ ¬ (i < p ∧ j < q) ∧ lkB M p q i j = -1000000000) ∧ (i < p ∧ sm (B + 1000000) (lkL M p q i j) ∨ ¬ i < p ∧ lkL M p q i j = -1000000000) ∧ (j < q ∧ sm (B + 1000000) (lkR M p q i j) ∨ ¬ j < q ∧ lkR M p q i j = -1000000000) := by
  obtain ⟨b1, b2, b3, b4, b5⟩ := hB
  refine ⟨?_, ?_, ?_⟩
  · unfold lkB
    by_cases h : i < p ∧ j < q
    · rw [if_pos h]
      refine Or.inl ⟨h, ?_⟩
      have t1 := ht (i + 1) (j + 1) 0 (by omega) (by omega) (by omega) (by omega)
      have t2 := b1 i j h.1 h.2
      unfold sm at *
      rw [Nat.add_zero] at t1
      rw [ti_add (by omega) (by omega) (by omega) (by omega)]
      omega
    · rw [if_neg h]; exact Or.inr ⟨h, rfl⟩
  · unfold lkL
    by_cases h : i < p
    · rw [if_pos h]
      refine Or.inl ⟨h, ?_⟩
      have t1 := ht (i + 1) j 1 (by omega) (by omega) (by omega) (by omega)
      have t2 := b2 i h
      unfold sm at *
      rw [show 12 + 1 = 13 from rfl] at t1
      rw [ti_sub (by omega) (by omega) (by omega) (by omega)]
      omega
    · rw [if_neg h]; exact Or.inr ⟨h, rfl⟩
  · unfold lkR
    by_cases h : j < q
    · rw [if_pos h]
      refine Or.inl ⟨h, ?_⟩
      have t1 := ht i (j + 1) 2 (by omega) (by omega) (by omega) (by omega)
      have t2 := b3 j h
      unfold sm at *
      rw [show 12 + 2 = 14 from rfl] at t1
      rw [ti_sub (by omega) (by omega) (by omega) (by omega)]
      omega
    · rw [if_neg h]; exact Or.inr ⟨h, rfl⟩
/-- the tables are small -/
theorem tab_sm {M : Mem} {p q : Nat} (hB : bnd M p q) (hp : p + q ≤ 96) (ht : tb M p q (fun _ _ => True)) : ∀ n i j l, i ≤ p → j ≤ q → l < 3 → p + q - (i + j) = n → sm (2000000 * n) (M (12 + l) (i * (q + 1) + j)) := by
  intro n
  induction n using Nat.strongRecOn with
  | ind n ih =>
    intro i j l hi hj hl hn
    rw [ht i j l hi hj hl trivial, dpv]
    by_cases e : i = p ∧ j = q
    · rw [if_pos e]; unfold sm
      have : (0 : Int32).toInt = 0 := by decide
      omega
    · rw [if_neg e]
      have hk := lk_sm (B := 2000000 * (n - 1 : Nat)) hB hi hj (by omega) (fun a b l ha hb hl h => sm_mono (ih (p + q - (a + b)) (by omega) a b l ha hb hl rfl) (by omega))
      exact (ch_ok (by omega) ⟨by omega, Int.le_refl _, by omega⟩ hB.2.2.2 hk.1 hk.2.1 hk.2.2 Iff.rfl (by omega)).1 |> fun h => sm_mono h (by omega)
theorem tab_ch {M : Mem} {p q : Nat} (hB : bnd M p q) (hp : p + q ≤ 96) (ht : tb M p q (fun _ _ => True)) : chOK M p q := by
  intro i j l hi hj ha hl
  have hk := lk_sm (B := 2000000 * 96) hB hi hj (by omega) (fun a b l ha hb hl h => sm_mono (tab_sm hB hp ht _ a b l ha hb hl rfl) (by omega))
  have := (ch_ok (C := 300000000) hl ⟨by omega, by omega, by omega⟩ hB.2.2.2 hk.1 hk.2.1 hk.2.2 Iff.rfl ha).2
  exact this
