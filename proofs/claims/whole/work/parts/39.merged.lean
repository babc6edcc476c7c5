/-! A MERGE OF THE CLASS AND ONE OF THE REFERENCE over the same groups: the same worth, the same group -/
theorem wst_in {T : Mem} {p q n : Nat} (hw : wlk T p q n) {k : Nat} (hk : k ≤ n) : (wst T p q k).1 ≤ p ∧ (wst T p q k).2.1 ≤ q := by
  rcases Nat.lt_or_ge k n with h | h
  · exact ⟨(hw.2.2.2 k h).1, (hw.2.2.2 k h).2.1⟩
  · rw [show k = n by omega]
    exact ⟨by rw [hw.2.1]; exact Nat.le_refl p, by rw [hw.2.2.1]; exact Nat.le_refl q⟩
theorem st_iff {T : Mem} {p q k x : Nat} (hx : x ≤ 2) : stF T p q k = nI x ↔ (wst T p q (k + 1)).2.2 = x := by
  have h := wst_le T p q (k + 1)
  unfold stF
  exact nI_eq (by omega) (by omega)
theorem wst_i {T : Mem} {p q k : Nat} (h : ¬ (wst T p q (k + 1)).2.2 = 2) : (wst T p q (k + 1)).1 = (wst T p q k).1 + 1 := by
  show (wst T p q k).1 + (if (wst T p q (k + 1)).2.2 = 2 then 0 else 1) = _
  rw [if_neg h]
theorem wst_j {T : Mem} {p q k : Nat} (h : ¬ (wst T p q (k + 1)).2.2 = 1) : (wst T p q (k + 1)).2.1 = (wst T p q k).2.1 + 1 := by
  show (wst T p q k).2.1 + (if (wst T p q (k + 1)).2.2 = 1 then 0 else 1) = _
  rw [if_neg h]
theorem okc_m1 : okc (-1) := Or.inl rfl
theorem merged_same {C D F F' : Mem} {B : Nat} {P Q : Int32} {v p q : Nat} {r r' : Option Value} (hd : dataOK C v) (hg : grp C D B P Q v p q) (hpq : p + q ≤ 60) (hcP : ∀ a k, a < 5 → ¬ hb P a = 0 → k < p → okc (C (B + a + 5) k)) (hcQ : ∀ a k, a < 5 → ¬ hb Q a = 0 → k < q → okc (C (B + a + 5) k)) (hdis : ∀ a, a < 5 → ¬ hb P a = 0 → ¬ ¬ hb Q a = 0) (h1 : uniP C B P Q v p q r F) (h2 : mergeP D p q r' F') :
    r = r' ∧ ∃ n, n ≤ p + q ∧ p ≤ n ∧ q ≤ n ∧ F' 72 31 = nI n ∧ (∀ a, a < 5 → (¬ hb P a = 0 ∨ ¬ hb Q a = 0) → F (B + a) 1 = nI n ∧ ∀ k, k < n → F (B + a + 5) k = F' 92 (60 * a + k) ∧ okc (F (B + a + 5) k)) := by
  obtain ⟨R, T, n, u1, u2, u3, u4, u5, u6, u7, u8, u9⟩ := h1
  obtain ⟨R', U, m, m1, m2, m3, m4, m5, m6, m7, m8, m9⟩ := h2
  have hs := same_data hg u1 u2 m1 m2 hcP hcQ
  have hl : m = n := walk_len u4 (by omega) u3 m3 hs u5 m4
  subst hl
  have hw := walk_same u4 (by omega) u3 m3 hs u5
  have hn1 : p ≤ m := by
    have := u5.2.1
    rw [wst_P] at this
    have h := ncnt_le (stF T p q) (nI 2) m
    omega
  have hn2 : q ≤ m := by
    have := u5.2.2.1
    rw [wst_Q] at this
    have h := ncnt_le (stF T p q) (nI 1) m
    omega
  refine ⟨?_, m, u5.1, hn1, hn2, m6, fun a ha hPQ => ?_⟩
  · rw [u6, m5]
    have := tab_same u4 (by omega) u3 m3 hs _ 0 0 0 (Nat.zero_le _) (Nat.zero_le _) (by omega) rfl
    rw [show 12 + 0 = 12 from rfl, Nat.zero_mul] at this
    rw [show (0 : Nat) + 0 = 0 from rfl] at this
    rw [this]
  · by_cases cP : hb P a = 0
    · have cQ : ¬ hb Q a = 0 := hPQ.resolve_left (fun z => z cP)
      refine ⟨(u8 a ha cQ).1, fun k hk => ?_⟩
      have e1 := (u8 a ha cQ).2 k hk
      have e2 := m7 k a hk ha
      rw [hw k (by omega), hw (k + 1) (by omega)] at e2
      have hstep : ¬ (wst T p q (k + 1)).2.2 = 1 → (wst T p q k).2.1 < q := fun h => by
        have := wst_in u5 (show k + 1 ≤ m from hk)
        rw [wst_j h] at this
        omega
      rw [e1, e2]
      have em : mcv D (wst T p q k).1 (wst T p q k).2.1 (wst T p q (k + 1)).2.2 a = if ¬ hb Q a = 0 ∧ (wst T p q (k + 1)).2.2 ≠ 1 then D 91 (60 * a + (wst T p q k).2.1) else -1 := by
        unfold mcv
        rw [hg.1, hg.2.1, if_neg (fun z => z.1 cP)]
      rw [em]
      by_cases e : (wst T p q (k + 1)).2.2 = 1
      · rw [if_pos ((st_iff (by decide)).mpr e), if_neg (fun z => z.2 e)]
        exact ⟨rfl, okc_m1⟩
      · rw [if_neg (fun z => e ((st_iff (by decide)).mp z)), if_pos ⟨cQ, e⟩, hg.2.2.2.1 a _ ha cQ (hstep e), ← wst_Q]
        exact ⟨rfl, hcQ a _ ha cQ (hstep e)⟩
    · have cQ : hb Q a = 0 := Decidable.not_not.mp (hdis a ha cP)
      refine ⟨(u7 a ha cP).1, fun k hk => ?_⟩
      have e1 := (u7 a ha cP).2 k hk
      have e2 := m7 k a hk ha
      rw [hw k (by omega), hw (k + 1) (by omega)] at e2
      have hstep : ¬ (wst T p q (k + 1)).2.2 = 2 → (wst T p q k).1 < p := fun h => by
        have := wst_in u5 (show k + 1 ≤ m from hk)
        rw [wst_i h] at this
        omega
      rw [e1, e2]
      unfold mcv
      rw [hg.1, hg.2.1]
      by_cases e : (wst T p q (k + 1)).2.2 = 2
      · rw [if_pos ((st_iff (by decide)).mpr e), if_neg (fun z => z.2 e), if_neg (fun z => z.1 cQ)]
        exact ⟨rfl, okc_m1⟩
      · rw [if_neg (fun z => e ((st_iff (by decide)).mp z)), if_pos ⟨cP, e⟩, hg.2.2.1 a _ ha cP (hstep e), ← wst_P]
        exact ⟨rfl, hcP a _ ha cP (hstep e)⟩
