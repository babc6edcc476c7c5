/-! averages over pairs, as naturals: heights grow along the history and stay within 10 -/
def bN (dd : Nat → Nat → Nat) (n : Nat) : Hist → Nat → Nat → Nat
  | [], a, b => dd a b
  | p :: h, a, b => if a = n + h.length then bN dd n h p.1 b + bN dd n h p.2 b else if b = n + h.length then bN dd n h p.1 a + bN dd n h p.2 a else bN dd n h a b
def HN (dd : Nat → Nat → Nat) (n : Nat) : Hist → Nat → Nat
  | [], _ => 0
  | p :: h, a => if a = n + h.length then bN dd n h p.1 p.2 / (100 * (sizF n h p.1 * sizF n h p.2)) else HN dd n h a
abbrev dI (dd : Nat → Nat → Nat) : Nat → Nat → Int32 := fun a b => nI (dd a b)
theorem bw_bN {dd : Nat → Nat → Nat} {n : Nat} : ∀ (h : Hist) (a b : Nat), bwF (dI dd) false n h a b = nI (bN dd n h a b) := by
  intro h
  induction h with
  | nil => intro a b; rfl
  | cons p h ih =>
    intro a b
    rw [bwF, bN]
    unfold jnF
    rw [if_pos rfl, if_pos rfl, ih, ih, ih, ih, ih, nI_add, nI_add]
    by_cases e : a = n + h.length
    · rw [if_pos e, if_pos e]
    · rw [if_neg e, if_neg e]
      by_cases e2 : b = n + h.length
      · rw [if_pos e2, if_pos e2]
      · rw [if_neg e2, if_neg e2]
theorem siz_new {n : Nat} : ∀ (h : Hist) (a : Nat), n + h.length ≤ a → sizF n h a = 1 := by
  intro h
  induction h with
  | nil => intro _ _; rfl
  | cons p h ih =>
    intro a ha
    have hlen : n + (p :: h).length = n + h.length + 1 := rfl
    rw [sizF, if_neg (by omega)]
    exact ih a (by omega)
theorem siz_pos {n : Nat} : ∀ (h : Hist) (a : Nat), 1 ≤ sizF n h a := by
  intro h
  induction h with
  | nil => intro _; exact Nat.le_refl 1
  | cons p h ih =>
    intro a
    rw [sizF]
    by_cases e : a = n + h.length
    · rw [if_pos e]; have := ih p.1; omega
    · rw [if_neg e]; exact ih a
theorem bN_le {dd : Nat → Nat → Nat} {n : Nat} (hd : ∀ a b, dd a b ≤ 1000) : ∀ (h : Hist) (a b : Nat), bN dd n h a b ≤ 1000 * (sizF n h a * sizF n h b) := by
  intro h
  induction h with
  | nil => intro a b; exact Nat.le_trans (hd a b) (by show 1000 ≤ 1000 * (1 * 1); omega)
  | cons p h ih =>
    intro a b
    have key : ∀ x, bN dd n h p.1 x + bN dd n h p.2 x ≤ 1000 * ((sizF n h p.1 + sizF n h p.2) * sizF n h x) := fun x => by
      have i1 := ih p.1 x
      have i2 := ih p.2 x
      rw [Nat.add_mul, Nat.mul_add]
      omega
    have mono : ∀ x, sizF n h x ≤ sizF n (p :: h) x := fun x => by
      rw [sizF]
      by_cases e : x = n + h.length
      · rw [if_pos e, siz_new h x (by omega)]; have := siz_pos (n := n) h p.1; omega
      · rw [if_neg e]; exact Nat.le_refl _
    rw [bN]
    by_cases e : a = n + h.length
    · rw [if_pos e]
      have es : sizF n (p :: h) a = sizF n h p.1 + sizF n h p.2 := by rw [sizF, if_pos e]
      rw [es]
      exact Nat.le_trans (key b) (Nat.mul_le_mul_left _ (Nat.mul_le_mul_left _ (mono b)))
    · rw [if_neg e]
      by_cases e2 : b = n + h.length
      · rw [if_pos e2]
        have es : sizF n (p :: h) b = sizF n h p.1 + sizF n h p.2 := by rw [sizF, if_pos e2]
        rw [es, Nat.mul_comm (sizF n (p :: h) a)]
        exact Nat.le_trans (key a) (Nat.mul_le_mul_left _ (Nat.mul_le_mul_left _ (mono a)))
      · rw [if_neg e2]
        exact Nat.le_trans (ih a b) (Nat.mul_le_mul_left _ (Nat.mul_le_mul (mono a) (mono b)))
theorem bN_sym {dd : Nat → Nat → Nat} {n : Nat} (hs : ∀ a b, dd a b = dd b a) : ∀ (h : Hist) (a b : Nat), bN dd n h a b = bN dd n h b a := by
  intro h
  induction h with
  | nil => intro a b; exact hs a b
  | cons p h ih =>
    intro a b
    rw [bN, bN]
    by_cases e : a = n + h.length
    · rw [if_pos e]
      by_cases e2 : b = n + h.length
      · rw [if_pos e2, e, e2]
      · rw [if_neg e2, if_pos e]
    · rw [if_neg e, if_neg e]
      by_cases e2 : b = n + h.length
      · rw [if_pos e2, if_pos e2]
      · rw [if_neg e2, if_neg e2]; exact ih a b
/-- the pair that is found is nowhere beaten -/
theorem pkI_min {op : Nat → Bool} {nr : Nat → Nat → Nat → Nat → Bool} {m a : Nat} {s : Pk} (tr : ∀ a b l r l' r', op a = true → op b = true → op l = true → op r = true → op l' = true → op r' = true → nr a b l r = false → nr l' r' l r = true → nr a b l' r' = false) (irr : ∀ a b, nr a b a b = false) (hg : goodP op m s)
    (hs : ∀ x y, x < y → y < m → x < a → op x = true → op y = true → ∃ l r, s = some (l, r) ∧ nr x y l r = false) : ∀ k, a + 1 + k ≤ m → ∀ x y, x < y → y < m → (x < a ∨ x = a ∧ y < a + 1 + k) → op x = true → op y = true → ∃ l r, pkI op nr a s k = some (l, r) ∧ nr x y l r = false := by
  intro k
  induction k with
  | zero => intro _ x y h1 h2 h3 o1 o2; exact hs x y h1 h2 (by omega) o1 o2
  | succ k ih =>
    intro hk x y h1 h2 h3 o1 o2
    have hgk := goodP_I (nr := nr) hg k (show a + 1 + k ≤ m by omega)
    rw [pkI]
    generalize ht : pkI op nr a s k = t at *
    have ih := ih (by omega)
    unfold stpO
    by_cases c : op a = true ∧ op (a + 1 + k) = true ∧ nrO nr a (a + 1 + k) t = true
    · rw [if_pos c]
      refine ⟨a, a + 1 + k, rfl, ?_⟩
      by_cases e : x = a ∧ y = a + 1 + k
      · rw [e.1, e.2]; exact irr _ _
      · obtain ⟨l, r, q1, q2⟩ := ih x y h1 h2 (by omega) o1 o2
        have g := hgk l r q1
        have c3 := c.2.2
        rw [q1] at c3
        exact tr x y l r a (a + 1 + k) o1 o2 g.2.2.1 g.2.2.2 c.1 c.2.1 q2 c3
    · rw [if_neg c]
      by_cases e : x = a ∧ y = a + 1 + k
      · obtain ⟨e1, e2⟩ := e
        subst e1 e2
        cases t with
        | none => exact absurd ⟨o1, o2, rfl⟩ c
        | some p =>
          obtain ⟨l, r⟩ := p
          refine ⟨l, r, rfl, ?_⟩
          cases hc : nr x (x + 1 + k) l r with
          | false => rfl
          | true => exact absurd ⟨o1, o2, hc⟩ c
      · exact ih x y h1 h2 (by omega) o1 o2
theorem pkO_min {op : Nat → Bool} {nr : Nat → Nat → Nat → Nat → Bool} {m : Nat} (tr : ∀ a b l r l' r', op a = true → op b = true → op l = true → op r = true → op l' = true → op r' = true → nr a b l r = false → nr l' r' l r = true → nr a b l' r' = false) (irr : ∀ a b, nr a b a b = false) : ∀ a, a ≤ m → ∀ x y, x < y → y < m → x < a → op x = true → op y = true → ∃ l r, pkO op nr m a = some (l, r) ∧ nr x y l r = false := by
  intro a
  induction a with
  | zero => intro _ x y _ _ h; omega
  | succ a ih =>
    intro ha x y h1 h2 h3 o1 o2
    exact pkI_min tr irr (goodP_O a (by omega)) (fun x y q1 q2 q3 => ih (by omega) x y q1 q2 q3) _ (by omega) x y h1 h2 (by omega) o1 o2
def nrN (dd : Nat → Nat → Nat) (n : Nat) (h : Hist) (a b l r : Nat) : Bool := decide (bN dd n h a b * (sizF n h l * sizF n h r) < bN dd n h l r * (sizF n h a * sizF n h b))
theorem mulmul_le {a b A B : Nat} (h1 : a ≤ A) (h2 : b ≤ B) : a * b ≤ A * B := Nat.mul_le_mul h1 h2
theorem nrF_nrN {dd : Nat → Nat → Nat} {n : Nat} {h : Hist} (hn : n ≤ 5) (hl : h.length < n) (hh : okH n h) (hd : ∀ a b, dd a b ≤ 1000) {a b l r : Nat} (ha : a < n + h.length) (hb : b < n + h.length) (hl' : l < n + h.length) (hr : r < n + h.length) : nrF (dI dd) false n h a b l r = nrN dd n h a b l r := by
  have sa := hist_small hn hl hh ha
  have sb := hist_small hn hl hh hb
  have sl := hist_small hn hl hh hl'
  have sr := hist_small hn hl hh hr
  have ab := bN_le (n := n) hd h a b
  have lr := bN_le (n := n) hd h l r
  have m1 : sizF n h a * sizF n h b ≤ 5 * 5 := mulmul_le sa.2.1 sb.2.1
  have m2 : sizF n h l * sizF n h r ≤ 5 * 5 := mulmul_le sl.2.1 sr.2.1
  unfold nrF nrN nmF dnF
  rw [if_pos rfl, if_pos rfl, if_pos rfl, if_pos rfl, bw_bN, bw_bN, pk_mul, pk_mul, pk_mul, pk_mul]
  have p1 : bN dd n h a b * (sizF n h l * sizF n h r) ≤ 25000 * 25 := mulmul_le (by omega) (by omega)
  have p2 : bN dd n h l r * (sizF n h a * sizF n h b) ≤ 25000 * 25 := mulmul_le (by omega) (by omega)
  exact decide_eq_decide.mpr (nI_ltI (by omega) (by omega))
theorem cross {x dx s ds t dt : Nat} (hds : 0 < ds) (h1 : s * dx ≤ x * ds) (h2 : t * ds < s * dt) : t * dx ≤ x * dt := by
  refine Nat.le_of_mul_le_mul_left (c := ds) ?_ hds
  have e1 : ds * (t * dx) = t * ds * dx := by rw [Nat.mul_comm ds, Nat.mul_assoc, Nat.mul_assoc, Nat.mul_comm dx]
  have e2 : ds * (x * dt) = x * ds * dt := by rw [Nat.mul_comm ds, Nat.mul_assoc, Nat.mul_assoc, Nat.mul_comm dt]
  rw [e1, e2]
  have a1 : t * ds * dx ≤ s * dt * dx := Nat.mul_le_mul_right _ (Nat.le_of_lt h2)
  have a2 : s * dx * dt ≤ x * ds * dt := Nat.mul_le_mul_right _ h1
  have e3 : s * dt * dx = s * dx * dt := by rw [Nat.mul_assoc, Nat.mul_comm dt, Nat.mul_assoc]
  omega
theorem pick_min {dd : Nat → Nat → Nat} {n : Nat} {h : Hist} {p : Nat × Nat} (hn : n ≤ 5) (hl : h.length < n) (hh : okH n h) (hd : ∀ a b, dd a b ≤ 1000) (hp : pick (dI dd) false n h = some p) {a b : Nat} (hab : a < b) (hb : b < n + h.length) (o1 : parF n h a = 0) (o2 : parF n h b = 0) : bN dd n h p.1 p.2 * (sizF n h a * sizF n h b) ≤ bN dd n h a b * (sizF n h p.1 * sizF n h p.2) := by
  have e : pick (dI dd) false n h = pkO (isO n h) (nrN dd n h) (n + h.length) (n + h.length) := pkO_congr (fun _ _ => rfl) (fun a b l r h1 h2 h3 h4 _ _ _ _ => nrF_nrN hn hl hh hd (by omega) (by omega) (by omega) (by omega)) _ (Nat.le_refl _)
  rw [e] at hp
  obtain ⟨l, r, q1, q2⟩ := pkO_min (op := isO n h) (nr := nrN dd n h) (m := n + h.length) (fun a b l r l' r' _ _ _ _ _ _ h1 h2 => by
      unfold nrN at *
      have h1 := of_decide_eq_false h1
      have h2 := of_decide_eq_true h2
      refine decide_eq_false (fun z => ?_)
      have pos : 0 < sizF n h l * sizF n h r := Nat.mul_pos (siz_pos h l) (siz_pos h r)
      have := cross pos (Nat.le_of_not_lt h1) h2
      omega) (fun a b => decide_eq_false (by omega)) _ (Nat.le_refl _) a b hab hb (by omega) (decide_eq_true o1) (decide_eq_true o2)
  rw [hp] at q1
  injection q1 with q1
  have q2 := of_decide_eq_false q2
  rw [← show p.1 = l by rw [q1], ← show p.2 = r by rw [q1]] at q2
  omega
/-- a later join has no smaller average -/
theorem join_mono {dd : Nat → Nat → Nat} {n : Nat} {h : Hist} {p p' : Nat × Nat} (hn : n ≤ 5) (hl : h.length + 1 < n) (hs : ∀ a b, dd a b = dd b a) (hd : ∀ a b, dd a b ≤ 1000) (hp : picked (dI dd) false n (p' :: p :: h)) : bN dd n h p.1 p.2 * (sizF n (p :: h) p'.1 * sizF n (p :: h) p'.2) ≤ bN dd n (p :: h) p'.1 p'.2 * (sizF n h p.1 * sizF n h p.2) := by
  obtain ⟨⟨h0, h1⟩, h2⟩ := hp
  have ok := picked_ok h0
  have k1 := pick_ok h1
  have k2 := pick_ok h2
  have k21 : p'.2 < n + h.length + 1 := k2.2.1
  have pe : ∀ x, parF n (p :: h) x = 0 → x ≠ p.1 ∧ x ≠ p.2 ∧ parF n h x = 0 := fun x hx => by
    have hx' : (if x = p.1 ∨ x = p.2 then n + h.length else parF n h x) = 0 := hx
    by_cases c : x = p.1 ∨ x = p.2
    · rw [if_pos c] at hx'; omega
    · rw [if_neg c] at hx'; exact ⟨fun z => c (Or.inl z), fun z => c (Or.inr z), hx'⟩
  have P1 := pe _ k2.2.2.1
  have P2 := pe _ k2.2.2.2
  have min := fun {a b : Nat} (hab : a < b) (hb : b < n + h.length) (o1 : parF n h a = 0) (o2 : parF n h b = 0) => pick_min hn (by omega) ok hd h1 hab hb o1 o2
  have min' : ∀ a b, a ≠ b → a < n + h.length → b < n + h.length → parF n h a = 0 → parF n h b = 0 → bN dd n h p.1 p.2 * (sizF n h a * sizF n h b) ≤ bN dd n h a b * (sizF n h p.1 * sizF n h p.2) := fun a b hab ha hb o1 o2 => by
    rcases Nat.lt_or_ge a b with z | z
    · exact min z hb o1 o2
    · rw [Nat.mul_comm (sizF n h a), bN_sym hs h a b]
      exact min (by omega) ha o2 o1
  have k22 := k2.1
  by_cases e : p'.2 = n + h.length
  · -- the new node is one of the two
    have e1 : p'.1 < n + h.length := by omega
    have hb : bN dd n (p :: h) p'.1 p'.2 = bN dd n h p.1 p'.1 + bN dd n h p.2 p'.1 := by rw [bN, if_neg (by omega), if_pos e]
    have s1 : sizF n (p :: h) p'.1 = sizF n h p'.1 := by rw [sizF, if_neg (by omega)]
    have s2 : sizF n (p :: h) p'.2 = sizF n h p.1 + sizF n h p.2 := by rw [sizF, if_pos e]
    have m1 := min' p.1 p'.1 (fun z => P1.1 z.symm) (by omega) e1 k1.2.2.1 P1.2.2
    have m2 := min' p.2 p'.1 (fun z => P1.2.1 z.symm) (by omega) e1 k1.2.2.2 P1.2.2
    rw [hb, s1, s2, Nat.mul_add, Nat.mul_add, Nat.add_mul, Nat.mul_comm (sizF n h p'.1), Nat.mul_comm (sizF n h p'.1)]
    omega
  · have e1 : p'.2 < n + h.length := by omega
    have hb : bN dd n (p :: h) p'.1 p'.2 = bN dd n h p'.1 p'.2 := by rw [bN, if_neg (by omega), if_neg e]
    have s1 : sizF n (p :: h) p'.1 = sizF n h p'.1 := by rw [sizF, if_neg (by omega)]
    have s2 : sizF n (p :: h) p'.2 = sizF n h p'.2 := by rw [sizF, if_neg e]
    rw [hb, s1, s2]
    exact min k22 e1 P1.2.2 P2.2.2
theorem div_mono {a b c d : Nat} (hc : 0 < c) (hd : 0 < d) (h : a * d ≤ b * c) : a / (100 * c) ≤ b / (100 * d) := by
  have h100 : 0 < 100 * d := by omega
  rw [Nat.le_div_iff_mul_le h100]
  have q := Nat.div_mul_le_self a (100 * c)
  generalize a / (100 * c) = k at *
  refine Nat.le_of_mul_le_mul_left (c := c) ?_ hc
  have e1 : c * (k * (100 * d)) = k * (100 * c) * d := by
    rw [Nat.mul_left_comm c k, Nat.mul_assoc k, Nat.mul_assoc 100 c d, Nat.mul_left_comm c 100 d]
  rw [e1, Nat.mul_comm c b]
  exact Nat.le_trans (Nat.mul_le_mul_right d q) h
theorem heights_ok {dd : Nat → Nat → Nat} {n : Nat} (hn : n ≤ 5) (hs : ∀ a b, dd a b = dd b a) (hd : ∀ a b, dd a b ≤ 1000) : ∀ h : Hist, h.length < n → picked (dI dd) false n h → (∀ a, HN dd n h a ≤ 10) ∧ (∀ a, a < n → HN dd n h a = 0) ∧ ∀ a, n ≤ a → a + 1 < n + h.length → HN dd n h a ≤ HN dd n h (a + 1) := by
  intro h
  induction h with
  | nil => intro _ _; exact ⟨fun _ => Nat.zero_le _, fun _ _ => rfl, fun a h0 h1 => by have h1 : a + 1 < n + 0 := h1; omega⟩
  | cons p h ih =>
    intro hl hp
    have hlen : (p :: h).length = h.length + 1 := rfl
    have i := ih (by omega) hp.1
    have ok := picked_ok hp.1
    refine ⟨fun a => ?_, fun a ha => ?_, fun a h0 h1 => ?_⟩
    · rw [HN]
      by_cases e : a = n + h.length
      · rw [if_pos e]
        have b := bN_le (n := n) hd h p.1 p.2
        have pos : 0 < sizF n h p.1 * sizF n h p.2 := Nat.mul_pos (siz_pos h _) (siz_pos h _)
        generalize sizF n h p.1 * sizF n h p.2 = z at *
        refine Nat.div_le_of_le_mul ?_
        omega
      · rw [if_neg e]; exact i.1 a
    · rw [HN, if_neg (by omega)]; exact i.2.1 a ha
    · rw [HN, HN, if_neg (by omega)]
      by_cases e : a + 1 = n + h.length
      · rw [if_pos e]
        cases h with
        | nil => have e : a + 1 = n + 0 := e; omega
        | cons p0 h0 =>
          have e : a + 1 = n + (h0.length + 1) := e
          have hl0 : (p0 :: h0).length = h0.length + 1 := rfl
          rw [HN, if_pos (by omega)]
          exact div_mono (Nat.mul_pos (siz_pos h0 _) (siz_pos h0 _)) (Nat.mul_pos (siz_pos _ _) (siz_pos _ _)) (join_mono hn (by omega) hs hd hp)
      · rw [if_neg e]
        exact i.2.2 a h0 (by omega)
