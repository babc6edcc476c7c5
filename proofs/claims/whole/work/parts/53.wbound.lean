/-! weights, as naturals: there are few shapes of trees, and all heights can be looked at -/
def sumN : List Nat → Nat
  | [] => 0
  | x :: l => x + sumN l
def prsN : List Nat → Nat
  | [] => 0
  | x :: l => x * sumN l + prsN l
theorem sumN_perm {l m : List Nat} (h : l.Perm m) : sumN l = sumN m := by
  induction h with
  | nil => rfl
  | cons x _ ih => rw [sumN, sumN, ih]
  | swap x y l => rw [sumN, sumN, sumN, sumN]; omega
  | trans _ _ i1 i2 => exact i1.trans i2
theorem prsN_perm {l m : List Nat} (h : l.Perm m) : prsN l = prsN m := by
  induction h with
  | nil => rfl
  | cons x h ih => rw [prsN, prsN, ih, sumN_perm h]
  | swap x y l =>
    rw [prsN, prsN, prsN, prsN, sumN, sumN, Nat.mul_add, Nat.mul_add, Nat.mul_comm y x]
    omega
  | trans _ _ i1 i2 => exact i1.trans i2
/-- the steps from a word up to the root: heights' numbers, and how many words lie below -/
def chn (n : Nat) (h : Hist) (i : Nat) : List (Nat × Nat × Nat) := (List.range (2 * n - 2)).filterMap fun k => if (mskF n h k).testBit i then some (k + 1 - n, parF n h k + 1 - n, sizF n h k) else none
def stepN (H : Nat → Nat) (t : Nat × Nat × Nat) : Nat := (H t.2.1 - H t.1) / t.2.2
def cw (H : Nat → Nat) (c : List (Nat × Nat × Nat)) : Nat := 1 + sumN (c.map (stepN H))
def shapes : List (List (List (Nat × Nat × Nat))) := [
  [[(0, 1, 1)], [(0, 1, 1)]],
  [[(0, 1, 1), (1, 2, 2)], [(0, 1, 1), (1, 2, 2)], [(0, 2, 1)]],
  [[(0, 1, 1), (1, 3, 2)], [(0, 1, 1), (1, 3, 2)], [(0, 2, 1), (2, 3, 2)], [(0, 2, 1), (2, 3, 2)]],
  [[(0, 1, 1), (1, 2, 2), (2, 3, 3)], [(0, 1, 1), (1, 2, 2), (2, 3, 3)], [(0, 2, 1), (2, 3, 3)], [(0, 3, 1)]],
  [[(0, 1, 1), (1, 3, 2), (3, 4, 3)], [(0, 1, 1), (1, 3, 2), (3, 4, 3)], [(0, 2, 1), (2, 4, 2)], [(0, 2, 1), (2, 4, 2)], [(0, 3, 1), (3, 4, 3)]],
  [[(0, 1, 1), (1, 4, 2)], [(0, 1, 1), (1, 4, 2)], [(0, 2, 1), (2, 3, 2), (3, 4, 3)], [(0, 2, 1), (2, 3, 2), (3, 4, 3)], [(0, 3, 1), (3, 4, 3)]],
  [[(0, 1, 1), (1, 2, 2), (2, 4, 3)], [(0, 1, 1), (1, 2, 2), (2, 4, 3)], [(0, 2, 1), (2, 4, 3)], [(0, 3, 1), (3, 4, 2)], [(0, 3, 1), (3, 4, 2)]],
  [[(0, 1, 1), (1, 3, 2), (3, 4, 4)], [(0, 1, 1), (1, 3, 2), (3, 4, 4)], [(0, 2, 1), (2, 3, 2), (3, 4, 4)], [(0, 2, 1), (2, 3, 2), (3, 4, 4)], [(0, 4, 1)]],
  [[(0, 1, 1), (1, 2, 2), (2, 3, 3), (3, 4, 4)], [(0, 1, 1), (1, 2, 2), (2, 3, 3), (3, 4, 4)], [(0, 2, 1), (2, 3, 3), (3, 4, 4)], [(0, 3, 1), (3, 4, 4)], [(0, 4, 1)]]]
theorem hist_shape {n : Nat} {h : Hist} (hn : n ≤ 5) (hn2 : 2 ≤ n) (hl : h.length + 1 = n) (hh : okH n h) : ∃ s, s ∈ shapes ∧ ((List.range n).map (chn n h)).Perm s := by
  have := hist_all (fun n h => if 2 ≤ n ∧ h.length + 1 = n then shapes.any fun s => ((List.range n).map (chn n h)).isPerm s else true) (by decide +kernel) hn (by omega) hh
  rw [if_pos ⟨hn2, hl⟩] at this
  obtain ⟨s, hs, h2⟩ := List.any_eq_true.mp this
  exact ⟨s, hs, List.isPerm_iff.mp h2⟩
def Hs (a b c d : Nat) : Nat → Nat
  | 0 => 0
  | 1 => a
  | 2 => b
  | 3 => c
  | _ => d
def wgood (l : List Nat) : Bool := l.all fun w => decide (w ≤ 11 ∧ prsN l ≤ 166 * w)
def wallH : Bool := shapes.all fun s => (List.range 11).all fun a => (List.range 11).all fun b => (b < a) || (List.range 11).all fun c => (c < b) || (List.range 11).all fun d => (d < c) || wgood (s.map (cw (Hs a b c d)))
theorem wall_ok : wallH = true := by decide +kernel
theorem shape_good {s : List (List (Nat × Nat × Nat))} (hs : s ∈ shapes) {a b c d : Nat} (h1 : a ≤ b) (h2 : b ≤ c) (h3 : c ≤ d) (h4 : d ≤ 10) : wgood (s.map (cw (Hs a b c d))) = true := by
  have w1 := List.all_eq_true.mp wall_ok s hs
  have w2 := List.all_eq_true.mp w1 a (List.mem_range.mpr (by omega))
  have w3 := List.all_eq_true.mp w2 b (List.mem_range.mpr (by omega))
  rw [show decide (b < a) = false from decide_eq_false (by omega), Bool.false_or] at w3
  have w4 := List.all_eq_true.mp w3 c (List.mem_range.mpr (by omega))
  rw [show decide (c < b) = false from decide_eq_false (by omega), Bool.false_or] at w4
  have w5 := List.all_eq_true.mp w4 d (List.mem_range.mpr (by omega))
  rw [show decide (d < c) = false from decide_eq_false (by omega), Bool.false_or] at w5
  exact w5
theorem wgood_perm {l m : List Nat} (h : l.Perm m) (hm : wgood m = true) {w : Nat} (hw : w ∈ l) : w ≤ 11 ∧ prsN l ≤ 166 * w := by
  have := List.all_eq_true.mp hm w (h.mem_iff.mp hw)
  rw [prsN_perm h]
  exact of_decide_eq_true this
theorem hist_weights {n : Nat} {h : Hist} (hn : n ≤ 5) (hn2 : 2 ≤ n) (hl : h.length + 1 = n) (hh : okH n h) {a b c d : Nat} (h1 : a ≤ b) (h2 : b ≤ c) (h3 : c ≤ d) (h4 : d ≤ 10) {i : Nat} (hi : i < n) :
    cw (Hs a b c d) (chn n h i) ≤ 11 ∧ prsN ((List.range n).map fun i => cw (Hs a b c d) (chn n h i)) ≤ 166 * cw (Hs a b c d) (chn n h i) := by
  obtain ⟨s, hs, hp⟩ := hist_shape hn hn2 hl hh
  have e : ((List.range n).map (chn n h)).map (cw (Hs a b c d)) = (List.range n).map fun i => cw (Hs a b c d) (chn n h i) := List.map_map
  have hp2 := hp.map (cw (Hs a b c d))
  rw [e] at hp2
  exact wgood_perm hp2 (shape_good hs h1 h2 h3 h4) (List.mem_map.mpr ⟨i, List.mem_range.mpr hi, rfl⟩)
