/-! THE TREE AS A HISTORY OF JOINS (the latest first): who is whose parent, which words lie under a node, sums kept, heights, the pair that is joined next -/
abbrev Hist : Type := List (Nat × Nat)
def parF (n : Nat) : Hist → Nat → Nat
  | [], _ => 0
  | p :: h, a => if a = p.1 ∨ a = p.2 then n + h.length else parF n h a
def mskF (n : Nat) : Hist → Nat → Nat
  | [], a => 2 ^ a
  | p :: h, a => if a = n + h.length then mskF n h p.1 ||| mskF n h p.2 else mskF n h a
def sizF (n : Nat) : Hist → Nat → Nat
  | [], _ => 1
  | p :: h, a => if a = n + h.length then sizF n h p.1 + sizF n h p.2 else sizF n h a
def kidF (n : Nat) : Hist → Nat → Nat × Nat
  | [], _ => (0, 0)
  | p :: h, a => if a = n + h.length then p else kidF n h a
def okH (n : Nat) : Hist → Prop
  | [] => True
  | p :: h => okH n h ∧ p.1 < p.2 ∧ p.2 < n + h.length ∧ parF n h p.1 = 0 ∧ parF n h p.2 = 0
def hsts (n : Nat) : Nat → List Hist
  | 0 => [[]]
  | j + 1 => (hsts n j).flatMap fun h => (List.range (n + j)).flatMap fun b => (List.range b).flatMap fun a => if parF n h a = 0 ∧ parF n h b = 0 then [(a, b) :: h] else []
theorem okH_mem {n : Nat} {h : Hist} (hh : okH n h) : h ∈ hsts n h.length := by
  induction h with
  | nil => exact List.mem_singleton.mpr rfl
  | cons p h ih =>
    obtain ⟨a, b⟩ := p
    obtain ⟨h1, h2, h3, h4, h5⟩ := hh
    have := ih h1
    show (a, b) :: h ∈ hsts n (h.length + 1)
    rw [hsts]
    refine List.mem_flatMap.mpr ⟨h, this, List.mem_flatMap.mpr ⟨b, List.mem_range.mpr h3, List.mem_flatMap.mpr ⟨a, List.mem_range.mpr h2, ?_⟩⟩⟩
    rw [if_pos ⟨h4, h5⟩]
    exact List.mem_singleton.mpr rfl
/-- what holds of every history of at most four joins over at most five words is found by looking at all of them -/
theorem hist_all (P : Nat → Hist → Bool) (hP : ((List.range 6).all fun n => (List.range n).all fun j => (hsts n j).all fun h => P n h) = true) {n : Nat} {h : Hist} (hn : n ≤ 5) (hl : h.length < n) (hh : okH n h) : P n h = true := by
  have h1 := List.all_eq_true.mp hP n (List.mem_range.mpr (by omega))
  have h2 := List.all_eq_true.mp h1 h.length (List.mem_range.mpr hl)
  exact List.all_eq_true.mp h2 h (okH_mem hh)
def allN (k : Nat) (p : Nat → Bool) : Bool := (List.range k).all p
theorem allN_get {k : Nat} {p : Nat → Bool} (h : allN k p = true) {a : Nat} (ha : a < k) : p a = true := List.all_eq_true.mp h a (List.mem_range.mpr ha)
/-- sizes and sets of words are small -/
theorem hist_small {n : Nat} {h : Hist} (hn : n ≤ 5) (hl : h.length < n) (hh : okH n h) {a : Nat} (ha : a < n + h.length) : 1 ≤ sizF n h a ∧ sizF n h a ≤ 5 ∧ mskF n h a < 32 := by
  have := hist_all (fun n h => allN (n + h.length) fun a => decide (1 ≤ sizF n h a ∧ sizF n h a ≤ 5 ∧ mskF n h a < 32)) (by decide +kernel) hn hl hh
  exact of_decide_eq_true (allN_get this ha)
/-- as long as joins are due, two nodes are open -/
theorem hist_open {n : Nat} {h : Hist} (hn : n ≤ 5) (hl : h.length + 1 < n) (hh : okH n h) : ∃ b, b < n + h.length ∧ ∃ a, a < b ∧ parF n h a = 0 ∧ parF n h b = 0 := by
  have := hist_all (fun n h => if h.length + 1 < n then (List.range (n + h.length)).any fun b => (List.range b).any fun a => decide (parF n h a = 0 ∧ parF n h b = 0) else true) (by decide +kernel) hn (by omega) hh
  rw [if_pos hl] at this
  obtain ⟨b, hb, h2⟩ := List.any_eq_true.mp this
  obtain ⟨a, ha, h3⟩ := List.any_eq_true.mp h2
  exact ⟨b, List.mem_range.mp hb, a, List.mem_range.mp ha, of_decide_eq_true h3⟩
/-- open nodes have no word in common; sizes count the words -/
theorem hist_apart {n : Nat} {h : Hist} (hn : n ≤ 5) (hl : h.length < n) (hh : okH n h) {a b : Nat} (ha : a < n + h.length) (hb : b < n + h.length) (hab : a ≠ b) (h1 : parF n h a = 0) (h2 : parF n h b = 0) : mskF n h a &&& mskF n h b = 0 := by
  have := hist_all (fun n h => allN (n + h.length) fun a => allN (n + h.length) fun b => decide (a ≠ b → parF n h a = 0 → parF n h b = 0 → mskF n h a &&& mskF n h b = 0)) (by decide +kernel) hn hl hh
  exact of_decide_eq_true (allN_get (allN_get this ha) hb) hab h1 h2
/-- parents come after their children, and a node with no parent at the end is the last -/
theorem hist_par {n : Nat} {h : Hist} (hn : n ≤ 5) (hl : h.length < n) (hh : okH n h) {a : Nat} (ha : a < n + h.length) : (parF n h a = 0 ∨ (a < parF n h a ∧ n ≤ parF n h a ∧ parF n h a < n + h.length)) := by
  have := hist_all (fun n h => allN (n + h.length) fun a => decide (parF n h a = 0 ∨ (a < parF n h a ∧ n ≤ parF n h a ∧ parF n h a < n + h.length))) (by decide +kernel) hn hl hh
  exact of_decide_eq_true (allN_get this ha)
theorem hist_top {n : Nat} {h : Hist} (hn : n ≤ 5) (hl : h.length + 1 = n) (hh : okH n h) : mskF n h (2 * n - 2) = 2 ^ n - 1 ∧ ∀ a, a < 2 * n - 2 → ¬ parF n h a = 0 := by
  have := hist_all (fun n h => if h.length + 1 = n then decide (mskF n h (2 * n - 2) = 2 ^ n - 1) && allN (2 * n - 2) fun a => decide (¬ parF n h a = 0) else true) (by decide +kernel) hn (by omega) hh
  rw [if_pos hl, Bool.and_eq_true] at this
  exact ⟨of_decide_eq_true this.1, fun a ha => of_decide_eq_true (allN_get this.2 ha)⟩
theorem hist_ch {n : Nat} {h : Hist} (hn : n ≤ 5) (hl : h.length < n) (hh : okH n h) {a : Nat} (h0 : n ≤ a) (ha : a < n + h.length) : (kidF n h a).1 < (kidF n h a).2 ∧ (kidF n h a).2 < a ∧ parF n h (kidF n h a).1 = a ∧ parF n h (kidF n h a).2 = a ∧ mskF n h a = mskF n h (kidF n h a).1 ||| mskF n h (kidF n h a).2 ∧ mskF n h (kidF n h a).1 &&& mskF n h (kidF n h a).2 = 0 := by
  have := hist_all (fun n h => allN (n + h.length) fun a => decide (n ≤ a → (kidF n h a).1 < (kidF n h a).2 ∧ (kidF n h a).2 < a ∧ parF n h (kidF n h a).1 = a ∧ parF n h (kidF n h a).2 = a ∧ mskF n h a = mskF n h (kidF n h a).1 ||| mskF n h (kidF n h a).2 ∧ mskF n h (kidF n h a).1 &&& mskF n h (kidF n h a).2 = 0)) (by decide +kernel) hn hl hh
  exact of_decide_eq_true (allN_get this ha) h0
/-! masks: 0 .. 31 -/
theorem bit_nI {i : Nat} (h : i < 5) : bit i = nI (2 ^ i) := (by decide +kernel : ∀ i, i < 5 → bit i = nI (2 ^ i)) i h
theorem or_nI {x y : Nat} (hx : x < 32) (hy : y < 32) : nI x ||| nI y = nI (x ||| y) := (by decide +kernel : ∀ x, x < 32 → ∀ y, y < 32 → nI x ||| nI y = nI (x ||| y)) x hx y hy
theorem hb_nI {x w : Nat} (hx : x < 32) (hw : w < 5) : ¬ hb (nI x) w = 0 ↔ x.testBit w = true := (by decide +kernel : ∀ x, x < 32 → ∀ w, w < 5 → (¬ hb (nI x) w = 0 ↔ x.testBit w = true)) x hx w hw
theorem hb_or {x y w : Nat} (hx : x < 32) (hy : y < 32) (hw : w < 5) : ¬ hb (nI (x ||| y)) w = 0 ↔ ¬ hb (nI x) w = 0 ∨ ¬ hb (nI y) w = 0 := by
  rw [hb_nI hx hw, hb_nI hy hw, hb_nI (Nat.or_lt_two_pow (n := 5) hx hy) hw, Nat.testBit_or, Bool.or_eq_true]
theorem hb_and {x y w : Nat} (hx : x < 32) (hy : y < 32) (hw : w < 5) (h : x &&& y = 0) : ¬ hb (nI x) w = 0 → ¬ ¬ hb (nI y) w = 0 := by
  rw [hb_nI hx hw, hb_nI hy hw]
  intro h1 h2
  have : (x &&& y).testBit w = true := by rw [Nat.testBit_and, h1, h2]; rfl
  rw [h] at this
  simp at this
/-- a node's set of words counted -/
theorem siz_count {n : Nat} {h : Hist} (hn : n ≤ 5) (hl : h.length < n) (hh : okH n h) {a : Nat} (ha : a < n + h.length) : psum (fun w => hb (nI (mskF n h a)) w) 5 = nI (sizF n h a) := by
  have := hist_all (fun n h => allN (n + h.length) fun a => decide (((List.range 5).countP fun w => (mskF n h a).testBit w) = sizF n h a)) (by decide +kernel) hn hl hh
  have e := of_decide_eq_true (allN_get this ha)
  have hs := (hist_small hn hl hh ha).2.2
  rw [← e]
  exact (by decide +kernel : ∀ x, x < 32 → psum (fun w => hb (nI x) w) 5 = nI ((List.range 5).countP fun w => x.testBit w)) _ hs
