/-! totals: what a merge keeps, and bounds -/
theorem ncnt_comp {st F g : Nat → Int32} {x : Int32} : ∀ m, (∀ k, k < m → F k = if st k = x then -1 else g (ncnt st x k)) → ncnt F (-1) m = ncnt g (-1) (ncnt st x m) := by
  intro m
  induction m with
  | zero => intro _; rfl
  | succ m ih =>
    intro h
    rw [ncnt, ih (fun k hk => h k (by omega)), h m (by omega), ncnt]
    by_cases c : st m = x
    · rw [if_pos c, if_pos c, if_pos rfl]; rfl
    · rw [if_neg c, if_neg c, ncnt]
theorem sb_gap {sc : Nat → Int32} {op ex : Int32} {q : Int32 × Int32} : sbS sc op ex (-1) (-1) q = q := if_pos ⟨rfl, rfl⟩
theorem sb_comp {sc : Nat → Int32} {op ex : Int32} {st F H f h : Nat → Int32} {x : Int32} : ∀ m, (∀ k, k < m → F k = if st k = x then -1 else f (ncnt st x k)) → (∀ k, k < m → H k = if st k = x then -1 else h (ncnt st x k)) → sbF sc op ex F H m = sbF sc op ex f h (ncnt st x m) := by
  intro m
  induction m with
  | zero => intro _ _; rfl
  | succ m ih =>
    intro h1 h2
    rw [sbF, ih (fun k hk => h1 k (by omega)) (fun k hk => h2 k (by omega)), h1 m (by omega), h2 m (by omega), ncnt]
    by_cases c : st m = x
    · rw [if_pos c, if_pos c, if_pos c, sb_gap]; rfl
    · rw [if_neg c, if_neg c, if_neg c, sbF]
theorem sb_keep {sc : Nat → Int32} {op ex : Int32} {kp : Nat → Bool} {F H f h : Nat → Int32} : ∀ m, (∀ k, k < m → kp k = true → F (bcnt kp k) = f k ∧ H (bcnt kp k) = h k) → (∀ k, k < m → kp k = false → f k = -1 ∧ h k = -1) → sbF sc op ex F H (bcnt kp m) = sbF sc op ex f h m := by
  intro m
  induction m with
  | zero => intro _ _; rfl
  | succ m ih =>
    intro h1 h2
    have i := ih (fun k hk => h1 k (by omega)) (fun k hk => h2 k (by omega))
    rw [bcnt, sbF]
    cases c : kp m with
    | true => rw [if_pos rfl, sbF, i, (h1 m (by omega) c).1, (h1 m (by omega) c).2]
    | false => rw [if_neg (by decide), (h2 m (by omega) c).1, (h2 m (by omega) c).2, sb_gap]; exact i
theorem nc_keep {kp : Nat → Bool} {F f : Nat → Int32} : ∀ m, (∀ k, k < m → kp k = true → F (bcnt kp k) = f k) → (∀ k, k < m → kp k = false → f k = -1) → ncnt F (-1) (bcnt kp m) = ncnt f (-1) m := by
  intro m
  induction m with
  | zero => intro _ _; rfl
  | succ m ih =>
    intro h1 h2
    have i := ih (fun k hk => h1 k (by omega)) (fun k hk => h2 k (by omega))
    rw [bcnt, ncnt]
    cases c : kp m with
    | true => rw [if_pos rfl, ncnt, i, h1 m (by omega) c]
    | false => rw [if_neg (by decide), h2 m (by omega) c, if_pos rfl]; exact i
/-- every column that is kept holds a letter -/
theorem keep_le {kp : Nat → Bool} {r : Nat → Nat → Int32} {t : Nat → Bool} {n : Nat} : ∀ m, (∀ k, k < m → kp k = true → ∃ a, a < n ∧ t a = true ∧ ¬ r a k = -1) → bcnt kp m ≤ wsum (fun a => if t a = true then ncnt (r a) (-1) m else 0) n := by
  intro m
  induction m with
  | zero => intro _; exact Nat.zero_le _
  | succ m ih =>
    intro h
    have i := ih (fun k hk => h k (by omega))
    have g : ∀ n (e : Nat), (e = 1 → ∃ a, a < n ∧ t a = true ∧ ¬ r a m = -1) → e ≤ 1 → wsum (fun a => if t a = true then ncnt (r a) (-1) m else 0) n + e ≤ wsum (fun a => if t a = true then ncnt (r a) (-1) (m + 1) else 0) n := by
      intro n
      induction n with
      | zero =>
        intro e he h1
        have : e = 0 := by
          by_cases c : e = 1
          · obtain ⟨a, ha, _⟩ := he c; omega
          · omega
        subst this; exact Nat.le_refl _
      | succ n ih2 =>
        intro e he h1
        rw [wsum, wsum]
        have mono : (if t n = true then ncnt (r n) (-1) m else 0) ≤ if t n = true then ncnt (r n) (-1) (m + 1) else 0 := by
          split
          · rw [ncnt]; omega
          · exact Nat.le_refl _
        by_cases c : t n = true ∧ ¬ r n m = -1
        · have j := ih2 0 (fun z => absurd z (by decide)) (by omega)
          rw [if_pos c.1, if_pos c.1, ncnt, if_neg c.2]; omega
        · have j := ih2 e (fun z => by
            obtain ⟨a, ha, hb⟩ := he z
            by_cases e2 : a = n
            · subst e2; exact absurd hb c
            · exact ⟨a, by omega, hb⟩) h1
          omega
    rw [bcnt]
    cases c : kp m with
    | true =>
      rw [if_pos rfl]
      have := g n 1 (fun _ => h m (by omega) c) (by omega)
      omega
    | false =>
      rw [if_neg (by decide)]
      have := g n 0 (fun z => absurd z (by decide)) (by omega)
      omega
/-- a score of two rows lies within -40 and 10 for each letter -/
theorem sb_bd {sc : Nat → Int32} {op ex : Int32} {x y : Nat → Int32} (hsc : ∀ k, k < 16 → sm 20 (sc k)) (ho : ps 20 op) (he : ps 20 ex) : ∀ m, m ≤ 60 → (∀ k, k < m → okc (x k) ∧ okc (y k)) → -40 * ((ncnt x (-1) m + ncnt y (-1) m : Nat) : Int) ≤ (sbF sc op ex x y m).1.toInt ∧ (sbF sc op ex x y m).1.toInt ≤ 10 * ((ncnt x (-1) m + ncnt y (-1) m : Nat) : Int) := by
  intro m
  induction m with
  | zero => intro _ _; have e : (sbF sc op ex x y 0).1.toInt = 0 := by show (nI 0).toInt = 0; decide
            rw [e, ncnt, ncnt]; omega
  | succ m ih =>
    intro hm hc
    obtain ⟨i1, i2⟩ := ih (by omega) (fun k hk => hc k (by omega))
    have l1 := ncnt_le x (-1) m
    have l2 := ncnt_le y (-1) m
    rw [sbF, ncnt, ncnt]
    have pen : ∀ b : Prop, [Decidable b] → 0 ≤ (ex + if b then nI 0 else op).toInt ∧ (ex + if b then nI 0 else op).toInt ≤ 40 := by
      intro b _
      unfold ps at ho he
      have h0 : (nI 0).toInt = 0 := by decide
      by_cases c : b
      · rw [if_pos c, ti_add (by omega) (by omega) (by omega) (by omega)]; omega
      · rw [if_neg c, ti_add (by omega) (by omega) (by omega) (by omega)]; omega
    generalize sbF sc op ex x y m = q at *
    by_cases c1 : x m = -1
    · by_cases c2 : y m = -1
      · rw [c1, c2, sb_gap, if_pos rfl]; exact ⟨i1, i2⟩
      · have e : sbS sc op ex (x m) (y m) q = (q.1 - (ex + if nI 2 = q.2 then nI 0 else op), nI 2) := by unfold sbS; rw [if_neg (fun z => c2 z.2), if_pos c1]
        rw [e, if_pos c1, if_neg c2]
        have p := pen (nI 2 = q.2)
        show _ ≤ (q.1 - (ex + if nI 2 = q.2 then nI 0 else op)).toInt ∧ (q.1 - (ex + if nI 2 = q.2 then nI 0 else op)).toInt ≤ _
        rw [ti_sub (by omega) (by omega) (by omega) (by omega)]
        omega
    · by_cases c2 : y m = -1
      · have e : sbS sc op ex (x m) (y m) q = (q.1 - (ex + if nI 1 = q.2 then nI 0 else op), nI 1) := by unfold sbS; rw [if_neg (fun z => c1 z.1), if_neg c1, if_pos c2]
        rw [e, if_neg c1, if_pos c2]
        have p := pen (nI 1 = q.2)
        show _ ≤ (q.1 - (ex + if nI 1 = q.2 then nI 0 else op)).toInt ∧ (q.1 - (ex + if nI 1 = q.2 then nI 0 else op)).toInt ≤ _
        rw [ti_sub (by omega) (by omega) (by omega) (by omega)]
        omega
      · have e : sbS sc op ex (x m) (y m) q = (q.1 + sc (cd (x m) * 4 + cd (y m)), nI 0) := by unfold sbS; rw [if_neg (fun z => c1 z.1), if_neg c1, if_neg c2]
        rw [e, if_neg c1, if_neg c2]
        have s : sm 20 (sc (cd (x m) * 4 + cd (y m))) := by
          obtain ⟨a, ha, ea⟩ := (hc m (by omega)).1.resolve_left c1
          obtain ⟨b, hb, eb⟩ := (hc m (by omega)).2.resolve_left c2
          rw [ea, eb, cd_nI ha, cd_nI hb]
          exact hsc _ (by omega)
        unfold sm at s
        show _ ≤ (q.1 + sc (cd (x m) * 4 + cd (y m))).toInt ∧ (q.1 + sc (cd (x m) * 4 + cd (y m))).toInt ≤ _
        rw [ti_add (by omega) (by omega) (by omega) (by omega)]
        omega
/-! sums of whole numbers -/
def isum (f : Nat → Int) : Nat → Int
  | 0 => 0
  | k + 1 => isum f k + f k
theorem isum_bd {f : Nat → Int} {K : Int} : ∀ n : Nat, (∀ j, j < n → -K ≤ f j ∧ f j ≤ K) → -(K * n) ≤ isum f n ∧ isum f n ≤ K * n := by
  intro n
  induction n with
  | zero => intro _; rw [isum]; omega
  | succ n ih =>
    intro h
    have i := ih (fun j hj => h j (by omega))
    have := h n (by omega)
    rw [isum, show K * ((n + 1 : Nat) : Int) = K * n + K by rw [Int.natCast_add, Int.mul_add]; omega]
    omega
theorem psum_int {f : Nat → Int32} {K : Int} (hK : 0 ≤ K) (hK2 : K ≤ 10000000) : ∀ n, n ≤ 5 → (∀ j, j < n → sm K (f j)) → (psum f n).toInt = isum (fun j => (f j).toInt) n := by
  intro n
  induction n with
  | zero => intro _ _; show (0 : Int32).toInt = (0 : Int); decide
  | succ n ih =>
    intro h5 h
    have i := ih (by omega) (fun j hj => h j (by omega))
    have b := isum_bd (f := fun j => (f j).toInt) (K := K) n (fun j hj => h j (by omega))
    have e : K * (n : Int) ≤ K * 5 := Int.mul_le_mul_of_nonneg_left (by omega) hK
    have hn := h n (by omega)
    unfold sm at hn
    rw [psum, ti_add (by omega) (by omega) (by omega) (by omega), i, isum]
theorem isum_congr {f g : Nat → Int} {n : Nat} (h : ∀ j, j < n → f j = g j) : isum f n = isum g n := by
  induction n with
  | zero => rfl
  | succ n ih => rw [isum, isum, ih (fun j hj => h j (by omega)), h n (by omega)]
theorem isum_sub (f g : Nat → Int) (n : Nat) : isum f n - isum g n = isum (fun j => f j - g j) n := by
  induction n with
  | zero => rfl
  | succ n ih => rw [isum, isum, isum, ← ih]; omega
theorem isum_dvd {f : Nat → Int} {k : Int} : ∀ n, (∀ j, j < n → k ∣ f j) → k ∣ isum f n := by
  intro n
  induction n with
  | zero => intro _; exact Int.dvd_zero k
  | succ n ih => intro h; rw [isum]; exact Int.dvd_add (ih (fun j hj => h j (by omega))) (h n (by omega))
theorem isum_le {f g : Nat → Int} : ∀ n, (∀ j, j < n → f j ≤ g j) → isum f n ≤ isum g n := by
  intro n
  induction n with
  | zero => intro _; exact Int.le_refl _
  | succ n ih => intro h; rw [isum, isum]; have := ih (fun j hj => h j (by omega)); have := h n (by omega); omega
/-- the total of a sheet, as a whole number: weights w, scores S -/
def totZ (w : Nat → Nat) (S : Nat → Nat → Int) (n : Nat) : Int := isum (fun i => isum (fun j => (w i * w (i + 1 + j) : Nat) * S i (i + 1 + j)) (n - (i + 1))) n
theorem totZ_dvd {w : Nat → Nat} {S S' : Nat → Nat → Int} {n i : Nat} (h : ∀ a b, a < b → b < n → a ≠ i → b ≠ i → S' a b = S a b) : ((w i : Nat) : Int) ∣ totZ w S' n - totZ w S n := by
  unfold totZ
  rw [isum_sub]
  refine isum_dvd n (fun a ha => ?_)
  rw [isum_sub]
  refine isum_dvd _ (fun b hb => ?_)
  rw [← Int.mul_sub]
  by_cases c : a = i
  · subst c; rw [Int.natCast_mul, Int.mul_assoc]; exact Int.dvd_mul_right _ _
  · by_cases c2 : a + 1 + b = i
    · rw [c2, Int.natCast_mul, Int.mul_comm (w a : Int), Int.mul_assoc]; exact Int.dvd_mul_right _ _
    · rw [h a (a + 1 + b) (by omega) (by omega) c c2, Int.sub_self, Int.mul_zero]; exact Int.dvd_zero _
theorem totZ_prs {w : Nat → Nat} {K : Int} {n : Nat} (hn : n ≤ 5) : totZ w (fun _ _ => K) n = K * (prsN ((List.range n).map w) : Nat) := by
  have : n = 0 ∨ n = 1 ∨ n = 2 ∨ n = 3 ∨ n = 4 ∨ n = 5 := by omega
  unfold totZ
  rcases this with rfl | rfl | rfl | rfl | rfl | rfl <;> simp [isum, List.range, List.range.loop, prsN, sumN] <;> grind
theorem totZ_bd {w : Nat → Nat} {S : Nat → Nat → Int} {n : Nat} {A B : Int} (hn : n ≤ 5) (h : ∀ a b, a < b → b < n → A ≤ S a b ∧ S a b ≤ B) : A * (prsN ((List.range n).map w) : Nat) ≤ totZ w S n ∧ totZ w S n ≤ B * (prsN ((List.range n).map w) : Nat) := by
  rw [← totZ_prs hn, ← totZ_prs hn]
  unfold totZ
  exact ⟨isum_le n (fun a ha => isum_le _ (fun b hb => Int.mul_le_mul_of_nonneg_left (h a (a + 1 + b) (by omega) (by omega)).1 (by omega))), isum_le n (fun a ha => isum_le _ (fun b hb => Int.mul_le_mul_of_nonneg_left (h a (a + 1 + b) (by omega) (by omega)).2 (by omega)))⟩
theorem nI_z {k : Nat} (h : k < 2147483648) : (nI k).toInt = (k : Int) := by exact nI_toInt (by omega)
/-- the total of a sheet: weights wv, scores S -/
def tot32 (wv : Nat → Int32) (S : Nat → Nat → Int32) (n : Nat) : Int32 := psum (fun i => psum (fun j => wv i * wv (i + 1 + j) * S i (i + 1 + j)) (n - (i + 1))) n
theorem tot_int {wv : Nat → Int32} {ws : Nat → Nat} {S : Nat → Nat → Int32} {n : Nat} (hn : n ≤ 5) (hw : ∀ i, i < n → wv i = nI (ws i) ∧ ws i ≤ 11) (hS : ∀ a b, a < b → b < n → sm 960 (S a b)) : (tot32 wv S n).toInt = totZ ws (fun a b => (S a b).toInt) n := by
  have t : ∀ a b, a < b → b < n → (wv a * wv b * S a b).toInt = (ws a * ws b : Nat) * (S a b).toInt ∧ sm 116160 (wv a * wv b * S a b) := by
    intro a b hab hb
    have h1 := hw a (by omega)
    have h2 := hw b hb
    have h3 := hS a b hab hb
    unfold sm at h3
    have h4 : ws a * ws b ≤ 11 * 11 := Nat.mul_le_mul h1.2 h2.2
    rw [h1.1, h2.1, pk_mul]
    have h5 : ((ws a * ws b : Nat) : Int) ≤ 121 := by omega
    have h6 : (0 : Int) ≤ ((ws a * ws b : Nat) : Int) := by omega
    have e := nI_z (k := ws a * ws b) (by omega)
    generalize ws a * ws b = p at *
    have u1 : (p : Int) * (S a b).toInt ≤ 121 * 960 := by
      refine Int.le_trans (Int.mul_le_mul_of_nonneg_left h3.2 h6) ?_
      exact Int.mul_le_mul_of_nonneg_right h5 (by decide)
    have u2 : -(121 * 960) ≤ (p : Int) * (S a b).toInt := by
      have : (p : Int) * (-960) ≤ (p : Int) * (S a b).toInt := Int.mul_le_mul_of_nonneg_left h3.1 h6
      omega
    have m : (nI p * S a b).toInt = (p : Int) * (S a b).toInt := by rw [ti_mul (by rw [e]; omega) (by rw [e]; omega), e]
    unfold sm
    rw [m]
    exact ⟨rfl, by omega, by omega⟩
  unfold tot32 totZ
  have inner : ∀ i, i < n → (psum (fun j => wv i * wv (i + 1 + j) * S i (i + 1 + j)) (n - (i + 1))).toInt = isum (fun j => (ws i * ws (i + 1 + j) : Nat) * (S i (i + 1 + j)).toInt) (n - (i + 1)) ∧ sm 580800 (psum (fun j => wv i * wv (i + 1 + j) * S i (i + 1 + j)) (n - (i + 1))) := by
    intro i hi
    have e := psum_int (f := fun j => wv i * wv (i + 1 + j) * S i (i + 1 + j)) (K := 116160) (by decide) (by decide) (n - (i + 1)) (by omega) (fun j hj => (t i (i + 1 + j) (by omega) (by omega)).2)
    have e2 : isum (fun j => (wv i * wv (i + 1 + j) * S i (i + 1 + j)).toInt) (n - (i + 1)) = isum (fun j => (ws i * ws (i + 1 + j) : Nat) * (S i (i + 1 + j)).toInt) (n - (i + 1)) := isum_congr (fun j hj => (t i (i + 1 + j) (by omega) (by omega)).1)
    refine ⟨e.trans e2, ?_⟩
    have b := isum_bd (f := fun j => (wv i * wv (i + 1 + j) * S i (i + 1 + j)).toInt) (K := 116160) (n - (i + 1)) (fun j hj => (t i (i + 1 + j) (by omega) (by omega)).2)
    unfold sm
    rw [e]
    omega
  rw [psum_int (K := 580800) (by decide) (by decide) n hn (fun j hj => (inner j hj).2)]
  exact isum_congr (fun i hi => (inner i hi).1)
theorem min_at {w : Nat → Nat} : ∀ n, 1 ≤ n → ∃ j, j < n ∧ ∀ i, i < n → w j ≤ w i := by
  intro n
  induction n with
  | zero => intro h; omega
  | succ n ih =>
    intro _
    by_cases c : n = 0
    · subst c; exact ⟨0, by omega, fun i hi => by rw [show i = 0 by omega]; exact Nat.le_refl _⟩
    · obtain ⟨j, hj, h⟩ := ih (by omega)
      by_cases d : w j ≤ w n
      · exact ⟨j, by omega, fun i hi => by
          by_cases e : i = n
          · subst e; exact d
          · exact h i (by omega)⟩
      · exact ⟨n, by omega, fun i hi => by
          by_cases e : i = n
          · subst e; exact Nat.le_refl _
          · have := h i (by omega); omega⟩
/-- how often a total can rise -/
theorem rises {K S2 w0 : Nat} {T T0 : Int} (hw : 1 ≤ w0) (h1 : (K : Int) * w0 ≤ T - T0) (h2 : T ≤ 240 * (S2 : Int)) (h3 : -960 * (S2 : Int) ≤ T0) (h4 : S2 ≤ 166 * w0) : K ≤ 199200 := by
  have h : ((K * w0 : Nat) : Int) ≤ ((199200 * w0 : Nat) : Int) := by
    rw [Int.natCast_mul]
    omega
  exact Nat.le_of_mul_le_mul_right (Int.ofNat_le.mp h) (by omega)
