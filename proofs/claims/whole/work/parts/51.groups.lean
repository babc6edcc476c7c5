/-! groups of rows along a tree -/
theorem uni_ok {C F : Mem} {B : Nat} {P Q : Int32} {v p q : Nat} {r : Option Value} (hcP : ∀ a k, a < 5 → ¬ hb P a = 0 → k < p → okc (C (B + a + 5) k)) (hcQ : ∀ a k, a < 5 → ¬ hb Q a = 0 → k < q → okc (C (B + a + 5) k)) (h : uniP C B P Q v p q r F) :
    ∃ x m, r = some (.int x) ∧ m ≤ p + q ∧ p ≤ m ∧ q ≤ m ∧ (∀ a, a < 5 → (¬ hb P a = 0 ∨ ¬ hb Q a = 0) → F (B + a) 1 = nI m ∧ ∀ c, c < m → okc (F (B + a + 5) c)) ∧ ∀ z, (z < 4 ∨ 15 < z) → (∀ a, a < 5 → (¬ hb P a = 0 ∨ ¬ hb Q a = 0) → z ≠ B + a ∧ z ≠ B + a + 5) → F z = C z := by
  obtain ⟨R, T, m, u1, u2, u3, u4, u5, u6, u7, u8, u9⟩ := h
  have hn1 : p ≤ m := by
    have := u5.2.1
    rw [wst_P] at this
    have h := ncnt_le (stF T p q) (nI 2) m
    omega
  have hn2 : q ≤ m := by
    have := u5.2.2.1
    rw [wst_Q] at this
    have h := ncnt_le (stF T p q) (nI 1) m
    omega
  refine ⟨T 12 0, m, u6, u5.1, hn1, hn2, fun a ha hPQ => ?_, u9⟩
  rcases hPQ with c | c
  · refine ⟨(u7 a ha c).1, fun k hk => ?_⟩
    rw [(u7 a ha c).2 k hk]
    by_cases e : stF T p q k = nI 2
    · rw [if_pos e]; exact okc_m1
    · rw [if_neg e]
      have h3 : ¬ (wst T p q (k + 1)).2.2 = 2 := fun z => e ((st_iff (by decide)).mpr z)
      have h4 := wst_in u5 (show k + 1 ≤ m from hk)
      rw [wst_i h3] at h4
      have e5 := wst_P T p q k
      exact hcP a _ ha c (by omega)
  · refine ⟨(u8 a ha c).1, fun k hk => ?_⟩
    rw [(u8 a ha c).2 k hk]
    by_cases e : stF T p q k = nI 1
    · rw [if_pos e]; exact okc_m1
    · rw [if_neg e]
      have h3 : ¬ (wst T p q (k + 1)).2.2 = 1 := fun z => e ((st_iff (by decide)).mpr z)
      have h4 := wst_in u5 (show k + 1 ≤ m from hk)
      rw [wst_j h3] at h4
      have e5 := wst_Q T p q k
      exact hcQ a _ ha c (by omega)
/-- the rows of a node's words are as wide as wd and hold ce -/
def grpW (N : Mem) (B n : Nat) (h : Hist) (a wd : Nat) (ce : Nat → Nat → Int32) : Prop := ∀ w, w < 5 → ¬ hb (nI (mskF n h a)) w = 0 → N (B + w) 1 = nI wd ∧ ∀ c, c < wd → N (B + w + 5) c = ce w c ∧ okc (ce w c)
def opnAt (n : Nat) (h : Hist) (k a : Nat) : Prop := a < k ∧ (parF n h a = 0 ∨ k ≤ parF n h a)
/-- a merge that the class made at node k -/
def mrgW (M : Mem) (B n : Nat) (h : Hist) (wd : Nat → Nat) (ce : Nat → Nat → Nat → Int32) (wt : Nat → Int32) (k : Nat) : Prop := ∃ C F : Mem, (∀ z, z = 2 ∨ z = 3 ∨ z = 24 → C z = M z) ∧ grpW C B n h (kidF n h k).1 (wd (kidF n h k).1) (ce (kidF n h k).1) ∧ grpW C B n h (kidF n h k).2 (wd (kidF n h k).2) (ce (kidF n h k).2) ∧ uniP C B (nI (mskF n h (kidF n h k).1)) (nI (mskF n h (kidF n h k).2)) 24 (wd (kidF n h k).1) (wd (kidF n h k).2) (some (.int (wt k))) F ∧ grpW F B n h k (wd k) (ce k)
def upF {α : Type} (f : Nat → α) (k : Nat) (v : α) : Nat → α := fun a => if a = k then v else f a
theorem upF_self {α : Type} {f : Nat → α} {k : Nat} {v : α} : upF f k v k = v := if_pos rfl
theorem upF_ne {α : Type} {f : Nat → α} {k a : Nat} {v : α} (h : a ≠ k) : upF f k v a = f a := if_neg h
theorem mrgW_upd {M : Mem} {B n : Nat} {h : Hist} {wd : Nat → Nat} {ce : Nat → Nat → Nat → Int32} {wt : Nat → Int32} {j k x : Nat} {y : Nat → Nat → Int32} {z : Int32} (hn : n ≤ 5) (hl : h.length + 1 = n) (hh : okH n h) (hj : n ≤ j) (hj2 : j < n + h.length) (hjk : j < k) (hm : mrgW M B n h wd ce wt j) : mrgW M B n h (upF wd k x) (upF ce k y) (upF wt k z) j := by
  have hk := hist_ch hn (by omega) hh hj hj2
  obtain ⟨C, F, c1, c2, c3, c4, c5⟩ := hm
  refine ⟨C, F, c1, ?_, ?_, ?_, ?_⟩
  · rw [upF_ne (by omega), upF_ne (by omega)]; exact c2
  · rw [upF_ne (by omega), upF_ne (by omega)]; exact c3
  · rw [upF_ne (by omega), upF_ne (by omega), upF_ne (by omega)]; exact c4
  · rw [upF_ne (by omega), upF_ne (by omega)]; exact c5
/-- the words of nodes that are open at the same time are apart -/
theorem hist_apartAt {n : Nat} {h : Hist} (hn : n ≤ 5) (hl : h.length < n) (hh : okH n h) {k a b : Nat} (hk : k ≤ n + h.length) (ha : opnAt n h k a) (hb : opnAt n h k b) (hab : a ≠ b) : mskF n h a &&& mskF n h b = 0 := by
  have := hist_all (fun n h => allN (n + h.length + 1) fun k => allN k fun a => allN k fun b => decide (a ≠ b → (parF n h a = 0 ∨ k ≤ parF n h a) → (parF n h b = 0 ∨ k ≤ parF n h b) → mskF n h a &&& mskF n h b = 0)) (by decide +kernel) hn hl hh
  exact of_decide_eq_true (allN_get (allN_get (allN_get this (show k < n + h.length + 1 by omega)) ha.1) hb.1) hab ha.2 hb.2
theorem hist_sz {n : Nat} {h : Hist} (hn : n ≤ 5) (hl : h.length < n) (hh : okH n h) {k : Nat} (h0 : n ≤ k) (hk : k < n + h.length) : sizF n h k = sizF n h (kidF n h k).1 + sizF n h (kidF n h k).2 ∧ 1 ≤ sizF n h (kidF n h k).1 ∧ 1 ≤ sizF n h (kidF n h k).2 ∧ sizF n h k ≤ n := by
  have := hist_all (fun n h => allN (n + h.length) fun k => decide (n ≤ k → sizF n h k = sizF n h (kidF n h k).1 + sizF n h (kidF n h k).2 ∧ 1 ≤ sizF n h (kidF n h k).1 ∧ 1 ≤ sizF n h (kidF n h k).2 ∧ sizF n h k ≤ n)) (by decide +kernel) hn hl hh
  exact of_decide_eq_true (allN_get this hk) h0
theorem hist_some {n : Nat} {h : Hist} (hn : n ≤ 5) (hl : h.length < n) (hh : okH n h) {a : Nat} (ha : a < n + h.length) : ∃ w, w < 5 ∧ ¬ hb (nI (mskF n h a)) w = 0 := by
  have := hist_all (fun n h => allN (n + h.length) fun a => (List.range 5).any fun w => (mskF n h a).testBit w) (by decide +kernel) hn hl hh
  obtain ⟨w, hw, h2⟩ := List.any_eq_true.mp (allN_get this ha)
  have hw := List.mem_range.mp hw
  exact ⟨w, hw, (hb_nI (hist_small hn hl hh ha).2.2 hw).mpr h2⟩
theorem hist_leaf {n : Nat} {h : Hist} (hn : n ≤ 5) (hl : h.length < n) (hh : okH n h) {i : Nat} (hi : i < n) : mskF n h i = 2 ^ i ∧ sizF n h i = 1 := by
  have := hist_all (fun n h => allN n fun i => decide (mskF n h i = 2 ^ i ∧ sizF n h i = 1)) (by decide +kernel) hn hl hh
  exact of_decide_eq_true (allN_get this hi)
theorem hist_words {n : Nat} {h : Hist} (hn : n ≤ 5) (hl : h.length < n) (hh : okH n h) {a w : Nat} (ha : a < n + h.length) (hw : w < 5) (hi : ¬ hb (nI (mskF n h a)) w = 0) : w < n := by
  have := hist_all (fun n h => allN (n + h.length) fun a => allN 5 fun w => decide ((mskF n h a).testBit w = true → w < n)) (by decide +kernel) hn hl hh
  exact of_decide_eq_true (allN_get (allN_get this ha) hw) ((hb_nI (hist_small hn hl hh ha).2.2 hw).mp hi)
/-- room of a merge: two words beside three -/
theorem room_ok {p q a b : Nat} (hp : p ≤ 12 * a) (hq : q ≤ 12 * b) (ha : 1 ≤ a) (hb : 1 ≤ b) (hab : a + b ≤ 5) : p ≤ 48 ∧ q ≤ 48 ∧ p + q ≤ 60 ∧ (p + 1) * (q + 1) ≤ 925 := by
  refine ⟨by omega, by omega, by omega, ?_⟩
  have h1 : (p + 1) * (q + 1) ≤ (12 * a + 1) * (12 * b + 1) := Nat.mul_le_mul (by omega) (by omega)
  have h2 : ∀ a, a < 5 → ∀ b, b < 5 → a + b ≤ 5 → (12 * a + 1) * (12 * b + 1) ≤ 925 := by decide
  exact Nat.le_trans h1 (h2 a (by omega) b (by omega) hab)
