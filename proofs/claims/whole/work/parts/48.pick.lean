/-! the values along a history; the pair that is joined next -/
def jnF (f : Nat → Nat → Int32) (sp : Bool) (l r x : Nat) : Int32 := if sp = false then f l x + f r x else (f l x + f r x - f l r) / nI 2
def bwF (D : Nat → Nat → Int32) (sp : Bool) (n : Nat) : Hist → Nat → Nat → Int32
  | [], a, b => if sp = false then D a b else nI 8 * D a b
  | p :: h, a, b => if a = n + h.length then jnF (bwF D sp n h) sp p.1 p.2 b else if b = n + h.length then jnF (bwF D sp n h) sp p.1 p.2 a else bwF D sp n h a b
def isO (n : Nat) (h : Hist) (a : Nat) : Bool := decide (parF n h a = 0)
def opnF (n : Nat) (h : Hist) : Nat → Int32 := fun x => if parF n h x = 0 then nI 1 else nI 0
def sppF (D : Nat → Nat → Int32) (sp : Bool) (n : Nat) (h : Hist) (a b : Nat) : Nat → Int32 := fun x => if parF n h x = 0 then (if x = a then nI 0 else bwF D sp n h a x) + (if x = b then nI 0 else bwF D sp n h b x) else nI 0
def nmF (D : Nat → Nat → Int32) (sp : Bool) (n : Nat) (h : Hist) (a b : Nat) : Int32 := if sp = false then bwF D sp n h a b else (psum (opnF n h) (n + h.length) - nI 2) * bwF D sp n h a b - psum (sppF D sp n h a b) (n + h.length)
def dnF (sp : Bool) (n : Nat) (h : Hist) (a b : Nat) : Int32 := if sp = false then nI (sizF n h a) * nI (sizF n h b) else nI 1
def nrF (D : Nat → Nat → Int32) (sp : Bool) (n : Nat) (h : Hist) (a b l r : Nat) : Bool := decide (nmF D sp n h a b * dnF sp n h l r < nmF D sp n h l r * dnF sp n h a b)
def hgF (D : Nat → Nat → Int32) (sp : Bool) (n : Nat) : Hist → Nat → Int32
  | [], _ => nI 0
  | p :: h, a => if a = n + h.length then nmF D sp n h p.1 p.2 / (nI 100 * dnF sp n h p.1 p.2) else hgF D sp n h a
abbrev Pk : Type := Option (Nat × Nat)
def nrO (nr : Nat → Nat → Nat → Nat → Bool) (a b : Nat) : Pk → Bool
  | none => true
  | some (l, r) => nr a b l r
def stpO (op : Nat → Bool) (nr : Nat → Nat → Nat → Nat → Bool) (a b : Nat) (s : Pk) : Pk := if op a = true ∧ op b = true ∧ nrO nr a b s = true then some (a, b) else s
def pkI (op : Nat → Bool) (nr : Nat → Nat → Nat → Nat → Bool) (a : Nat) (s : Pk) : Nat → Pk
  | 0 => s
  | k + 1 => stpO op nr a (a + 1 + k) (pkI op nr a s k)
def pkO (op : Nat → Bool) (nr : Nat → Nat → Nat → Nat → Bool) (m : Nat) : Nat → Pk
  | 0 => none
  | a + 1 => pkI op nr a (pkO op nr m a) (m - (a + 1))
def pick (D : Nat → Nat → Int32) (sp : Bool) (n : Nat) (h : Hist) : Pk := pkO (isO n h) (nrF D sp n h) (n + h.length) (n + h.length)
def picked (D : Nat → Nat → Int32) (sp : Bool) (n : Nat) : Hist → Prop
  | [] => True
  | p :: h => picked D sp n h ∧ pick D sp n h = some p
/-- a pair of open nodes below m -/
def goodP (op : Nat → Bool) (m : Nat) (s : Pk) : Prop := ∀ l r, s = some (l, r) → l < r ∧ r < m ∧ op l = true ∧ op r = true
theorem goodP_stp {op : Nat → Bool} {nr : Nat → Nat → Nat → Nat → Bool} {m a b : Nat} {s : Pk} (hab : a < b) (hb : b < m) (h : goodP op m s) : goodP op m (stpO op nr a b s) := by
  intro l r e
  unfold stpO at e
  by_cases c : op a = true ∧ op b = true ∧ nrO nr a b s = true
  · rw [if_pos c] at e
    injection e with e; injection e with e1 e2
    subst e1 e2
    exact ⟨hab, hb, c.1, c.2.1⟩
  · rw [if_neg c] at e
    exact h l r e
theorem goodP_I {op : Nat → Bool} {nr : Nat → Nat → Nat → Nat → Bool} {m a : Nat} {s : Pk} (h : goodP op m s) : ∀ k, a + 1 + k ≤ m → goodP op m (pkI op nr a s k) := by
  intro k
  induction k with
  | zero => intro _; exact h
  | succ k ih => intro hk; exact goodP_stp (by omega) (by omega) (ih (by omega))
theorem goodP_O {op : Nat → Bool} {nr : Nat → Nat → Nat → Nat → Bool} {m : Nat} : ∀ a, a ≤ m → goodP op m (pkO op nr m a) := by
  intro a
  induction a with
  | zero => intro _ l r e; cases e
  | succ a ih => intro ha; exact goodP_I (ih (by omega)) _ (by omega)
theorem stp_some {op : Nat → Bool} {nr : Nat → Nat → Nat → Nat → Bool} {a b : Nat} {s : Pk} (h : s ≠ none ∨ (op a = true ∧ op b = true)) : stpO op nr a b s ≠ none := by
  unfold stpO
  by_cases c : op a = true ∧ op b = true ∧ nrO nr a b s = true
  · rw [if_pos c]; exact fun z => by cases z
  · rw [if_neg c]
    rcases h with h | h
    · exact h
    · intro z
      rw [z] at c
      exact c ⟨h.1, h.2, rfl⟩
theorem pkI_some {op : Nat → Bool} {nr : Nat → Nat → Nat → Nat → Bool} {a : Nat} {s : Pk} : ∀ k, (s ≠ none ∨ ∃ b, a < b ∧ b < a + 1 + k ∧ op a = true ∧ op b = true) → pkI op nr a s k ≠ none := by
  intro k
  induction k with
  | zero => intro h; exact h.resolve_right (fun ⟨b, h1, h2, _⟩ => by omega)
  | succ k ih =>
    intro h
    refine stp_some ?_
    rcases h with h | ⟨b, h1, h2, h3, h4⟩
    · exact Or.inl (ih (Or.inl h))
    · by_cases e : b = a + 1 + k
      · subst e; exact Or.inr ⟨h3, h4⟩
      · exact Or.inl (ih (Or.inr ⟨b, h1, by omega, h3, h4⟩))
theorem pkO_some {op : Nat → Bool} {nr : Nat → Nat → Nat → Nat → Bool} {m : Nat} : ∀ c, c ≤ m → (∃ a b, a < c ∧ a < b ∧ b < m ∧ op a = true ∧ op b = true) → pkO op nr m c ≠ none := by
  intro c
  induction c with
  | zero => intro _ ⟨a, b, h, _⟩; omega
  | succ c ih =>
    intro hc ⟨a, b, h1, h2, h3, h4, h5⟩
    refine pkI_some _ ?_
    by_cases e : a = c
    · subst e; exact Or.inr ⟨b, h2, by omega, h4, h5⟩
    · exact Or.inl (ih (by omega) ⟨a, b, by omega, h2, h3, h4, h5⟩)
theorem pick_ok {D : Nat → Nat → Int32} {sp : Bool} {n : Nat} {h : Hist} {p : Nat × Nat} (e : pick D sp n h = some p) : p.1 < p.2 ∧ p.2 < n + h.length ∧ parF n h p.1 = 0 ∧ parF n h p.2 = 0 := by
  have := goodP_O (op := isO n h) (nr := nrF D sp n h) (m := n + h.length) _ (Nat.le_refl _) p.1 p.2 e
  exact ⟨this.1, this.2.1, of_decide_eq_true this.2.2.1, of_decide_eq_true this.2.2.2⟩
theorem picked_ok {D : Nat → Nat → Int32} {sp : Bool} {n : Nat} {h : Hist} (hh : picked D sp n h) : okH n h := by
  induction h with
  | nil => trivial
  | cons p h ih => exact ⟨ih hh.1, pick_ok hh.2⟩
theorem pick_some {D : Nat → Nat → Int32} {sp : Bool} {n : Nat} {h : Hist} (hn : n ≤ 5) (hl : h.length + 1 < n) (hh : okH n h) : ∃ p, pick D sp n h = some p := by
  obtain ⟨b, hb, a, ha, h1, h2⟩ := hist_open hn hl hh
  have := pkO_some (op := isO n h) (nr := nrF D sp n h) (m := n + h.length) _ (Nat.le_refl _) ⟨a, b, by omega, ha, hb, decide_eq_true h1, decide_eq_true h2⟩
  exact Option.ne_none_iff_exists'.mp this
/-- two ways of judging that agree on open pairs find the same pair -/
theorem stp_congr {op op' : Nat → Bool} {nr nr' : Nat → Nat → Nat → Nat → Bool} {m a b : Nat} {s : Pk} (hab : a < b) (hb : b < m) (hop : ∀ x, x < m → op x = op' x) (hnr : ∀ a b l r, a < b → b < m → l < r → r < m → op a = true → op b = true → op l = true → op r = true → nr a b l r = nr' a b l r) (hs : goodP op m s) : stpO op nr a b s = stpO op' nr' a b s := by
  unfold stpO
  rw [← hop a (by omega), ← hop b hb]
  by_cases c : op a = true ∧ op b = true
  · have : nrO nr a b s = nrO nr' a b s := by
      cases s with
      | none => rfl
      | some p =>
        obtain ⟨l, r⟩ := p
        have g := hs l r rfl
        exact hnr a b l r hab hb g.1 g.2.1 c.1 c.2 g.2.2.1 g.2.2.2
    rw [this]
  · rw [if_neg (fun z => c ⟨z.1, z.2.1⟩), if_neg (fun z => c ⟨z.1, z.2.1⟩)]
theorem pkI_congr {op op' : Nat → Bool} {nr nr' : Nat → Nat → Nat → Nat → Bool} {m a : Nat} {s : Pk} (hop : ∀ x, x < m → op x = op' x) (hnr : ∀ a b l r, a < b → b < m → l < r → r < m → op a = true → op b = true → op l = true → op r = true → nr a b l r = nr' a b l r) (hs : goodP op m s) : ∀ k, a + 1 + k ≤ m → pkI op nr a s k = pkI op' nr' a s k := by
  intro k
  induction k with
  | zero => intro _; rfl
  | succ k ih =>
    intro hk
    rw [pkI, pkI, ← ih (by omega)]
    exact stp_congr (by omega) (by omega) hop hnr (goodP_I hs k (by omega))
theorem pkO_congr {op op' : Nat → Bool} {nr nr' : Nat → Nat → Nat → Nat → Bool} {m : Nat} (hop : ∀ x, x < m → op x = op' x) (hnr : ∀ a b l r, a < b → b < m → l < r → r < m → op a = true → op b = true → op l = true → op r = true → nr a b l r = nr' a b l r) : ∀ a, a ≤ m → pkO op nr m a = pkO op' nr' m a := by
  intro a
  induction a with
  | zero => intro _; rfl
  | succ a ih =>
    intro ha
    rw [pkO, pkO, ← ih (by omega)]
    exact pkI_congr hop hnr (goodP_O a (by omega)) _ (by omega)
/-! what the class's memory holds of a tree -/
def parI (n : Nat) (h : Hist) (a : Nat) : Int32 := if parF n h a = 0 then -1 else nI (parF n h a)
def clT (D : Nat → Nat → Int32) (sp : Bool) (n : Nat) (h : Hist) (M : Mem) : Prop :=
  M 16 9 = nI n ∧ M 16 10 = nI (n + h.length) ∧ (M 16 11 = 0 ↔ sp = false) ∧
  (∀ a, a < n + h.length → M 20 a = nI (mskF n h a) ∧ M 21 a = nI (sizF n h a) ∧ M 23 a = parI n h a ∧ M 22 a = hgF D sp n h a) ∧
  (∀ a, n ≤ a → a < n + h.length → M 17 a = nI (kidF n h a).1 ∧ M 18 a = nI (kidF n h a).2) ∧
  ∀ a b, a < n + h.length → b < n + h.length → a ≠ b → parF n h a = 0 → parF n h b = 0 → M (26 + a) b = bwF D sp n h a b
theorem parI_neg {n : Nat} {h : Hist} {a : Nat} (hs : parF n h a < 100) : parI n h a < 0 ↔ parF n h a = 0 := by
  unfold parI
  by_cases e : parF n h a = 0
  · rw [if_pos e]; exact ⟨fun _ => e, fun _ => by decide⟩
  · rw [if_neg e]
    refine ⟨fun z => ?_, fun z => absurd z e⟩
    rw [← nI_0] at z
    have := (nI_ltI (by omega) (by omega)).mp z
    omega
theorem clT_open {D : Nat → Nat → Int32} {sp : Bool} {n : Nat} {h : Hist} {M : Mem} (hn : n ≤ 5) (hl : h.length < n) (hh : okH n h) (hT : clT D sp n h M) {a : Nat} (ha : a < n + h.length) : M 23 a < 0 ↔ parF n h a = 0 := by
  rw [(hT.2.2.2.1 a ha).2.2.1]
  have := hist_par hn hl hh ha
  exact parI_neg (by omega)
theorem clT_num {D : Nat → Nat → Int32} {sp : Bool} {n : Nat} {h : Hist} {M : Mem} (hn : n ≤ 5) (hl : h.length < n) (hh : okH n h) (hT : clT D sp n h M) {a b : Nat} (ha : a < n + h.length) (hb : b < n + h.length) (hab : a ≠ b) (h1 : parF n h a = 0) (h2 : parF n h b = 0) : numM M (n + h.length) a b = nmF D sp n h a b ∧ denM M a b = dnF sp n h a b := by
  have hop := fun x (hx : x < n + h.length) => clT_open hn hl hh hT hx
  obtain ⟨t1, t2, t3, t4, t5, t6⟩ := hT
  constructor
  · unfold numM nmF
    by_cases c : sp = false
    · rw [if_pos (t3.mpr c), if_pos c]
      exact t6 a b ha hb hab h1 h2
    · rw [if_neg (fun z => c (t3.mp z)), if_neg c, t6 a b ha hb hab h1 h2]
      have e1 : psum (opF M) (n + h.length) = psum (opnF n h) (n + h.length) := psum_congr (fun x hx => by
        unfold opF opnF
        by_cases z : parF n h x = 0
        · rw [if_pos ((hop x hx).mpr z), if_pos z]
        · rw [if_neg (fun y => z ((hop x hx).mp y)), if_neg z])
      have e2 : psum (spF M a b) (n + h.length) = psum (sppF D sp n h a b) (n + h.length) := psum_congr (fun x hx => by
        unfold spF sppF
        by_cases z : parF n h x = 0
        · rw [if_pos ((hop x hx).mpr z), if_pos z]
          have q1 : (if x = a then nI 0 else M (26 + a) x) = if x = a then nI 0 else bwF D sp n h a x := by
            by_cases e : x = a
            · rw [if_pos e, if_pos e]
            · rw [if_neg e, if_neg e, t6 a x ha hx (fun y => e y.symm) h1 z]
          have q2 : (if x = b then nI 0 else M (26 + b) x) = if x = b then nI 0 else bwF D sp n h b x := by
            by_cases e : x = b
            · rw [if_pos e, if_pos e]
            · rw [if_neg e, if_neg e, t6 b x hb hx (fun y => e y.symm) h2 z]
          rw [q1, q2]
        · rw [if_neg (fun y => z ((hop x hx).mp y)), if_neg z])
      rw [e1, e2]
  · unfold denM dnF
    by_cases c : sp = false
    · rw [if_pos (t3.mpr c), if_pos c, (t4 a ha).2.1, (t4 b hb).2.1]
    · rw [if_neg (fun z => c (t3.mp z)), if_neg c]
theorem clT_pick {D : Nat → Nat → Int32} {sp : Bool} {n : Nat} {h : Hist} {M : Mem} (hn : n ≤ 5) (hl : h.length < n) (hh : okH n h) (hT : clT D sp n h M) : pkO (fun x => decide (M 23 x < 0)) (nrM M (n + h.length)) (n + h.length) (n + h.length) = pick D sp n h := by
  unfold pick
  have hop : ∀ x, x < n + h.length → decide (M 23 x < 0) = isO n h x := fun x hx => by
    unfold isO
    exact decide_eq_decide.mpr (clT_open hn hl hh hT hx)
  refine pkO_congr hop (fun a b l r h1 h2 h3 h4 o1 o2 o3 o4 => ?_) _ (Nat.le_refl _)
  have oo : ∀ x, x < n + h.length → decide (M 23 x < 0) = true → parF n h x = 0 := fun x hx z => (clT_open hn hl hh hT hx).mp (of_decide_eq_true z)
  have q1 := clT_num hn hl hh hT (a := a) (b := b) (by omega) (by omega) (by omega) (oo a (by omega) o1) (oo b (by omega) o2)
  have q2 := clT_num hn hl hh hT (a := l) (b := r) (by omega) (by omega) (by omega) (oo l (by omega) o3) (oo r (by omega) o4)
  unfold nrM nrF
  rw [q1.1, q1.2, q2.1, q2.2]
