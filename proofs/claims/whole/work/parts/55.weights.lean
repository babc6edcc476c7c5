/-! the weights are from 1 to 11 -/
theorem nI_div {a b : Nat} (ha : a < 2 ^ 31) (hb : b < 2 ^ 31) : nI a / nI b = nI (a / b) := by
  have hq : a / b ≤ a := Nat.div_le_self a b
  have h0 : (0 : Int) ≤ ((a / b : Nat) : Int) := Int.natCast_nonneg _
  refine i32_eq ?_
  rw [Int32.toInt_div, nI_toInt ha, nI_toInt hb, nI_toInt (by omega), Int.tdiv_eq_ediv_of_nonneg (Int.natCast_nonneg a), ← Int.natCast_ediv]
  exact Int.bmod_eq_of_le (by omega) (by omega)
theorem nI_sub {a b : Nat} (h : b ≤ a) : nI a - nI b = nI (a - b) := by
  have e : nI a = nI (a - b) + nI b := by rw [nI_add]; congr 1; omega
  rw [e, Int32.add_sub_cancel]
theorem hg_HN {dd : Nat → Nat → Nat} {n : Nat} (hn : n ≤ 5) (hd : ∀ a b, dd a b ≤ 1000) : ∀ h : Hist, h.length < n → okH n h → ∀ a, hgF (dI dd) false n h a = nI (HN dd n h a) := by
  intro h
  induction h with
  | nil => intro _ _ a; rfl
  | cons p h ih =>
    intro hl hh a
    have hlen : (p :: h).length = h.length + 1 := rfl
    obtain ⟨h1, h2, h3, _, _⟩ := hh
    rw [hgF, HN]
    by_cases e : a = n + h.length
    · rw [if_pos e, if_pos e]
      have s1 := hist_small hn (by omega) h1 (a := p.1) (by omega)
      have s2 := hist_small hn (by omega) h1 (a := p.2) (by omega)
      have m : sizF n h p.1 * sizF n h p.2 ≤ 5 * 5 := mulmul_le s1.2.1 s2.2.1
      have b := bN_le (n := n) hd h p.1 p.2
      unfold nmF dnF
      rw [if_pos rfl, if_pos rfl, bw_bN, pk_mul, pk_mul, nI_div (by omega) (by omega)]
    · rw [if_neg e, if_neg e]; exact ih (by omega) h1 a
def wsum (g : Nat → Nat) : Nat → Nat
  | 0 => 0
  | k + 1 => wsum g k + g k
theorem psum_nI (g : Nat → Nat) : ∀ m, psum (fun k => nI (g k)) m = nI (wsum g m) := by
  intro m
  induction m with
  | zero => exact nI_0.symm
  | succ m ih => rw [psum, wsum, ih, nI_add]
theorem wsum_congr {f g : Nat → Nat} {m : Nat} (h : ∀ k, k < m → f k = g k) : wsum f m = wsum g m := by
  induction m with
  | zero => rfl
  | succ m ih => rw [wsum, wsum, ih (fun k hk => h k (by omega)), h m (by omega)]
theorem sumN_append (l m : List Nat) : sumN (l ++ m) = sumN l + sumN m := by
  induction l with
  | nil => rw [List.nil_append, sumN, Nat.zero_add]
  | cons x l ih => rw [List.cons_append, sumN, sumN, ih]; omega
theorem sum_filter {α : Type} (P : Nat → Bool) (t : Nat → α) (F : α → Nat) : ∀ m, sumN (((List.range m).filterMap fun k => if P k = true then some (t k) else none).map F) = wsum (fun k => if P k = true then F (t k) else 0) m := by
  intro m
  induction m with
  | zero => rfl
  | succ m ih =>
    rw [List.range_succ, List.filterMap_append, List.map_append, sumN_append, ih, wsum]
    congr 1
    by_cases c : P m = true
    · simp [c, sumN]
    · simp [c, sumN]
/-- height numbers: 0 a word, j the j-th join -/
def HA (dd : Nat → Nat → Nat) (n : Nat) (h : Hist) (j : Nat) : Nat := HN dd n h (n + min j (n - 1) - 1)
def wNat (dd : Nat → Nat → Nat) (n : Nat) (h : Hist) (i : Nat) : Nat := cw (Hs (HA dd n h 1) (HA dd n h 2) (HA dd n h 3) (HA dd n h 4)) (chn n h i)
def clH (D : Nat → Nat → Int32) (sp : Bool) (n : Nat) (h : Hist) (i : Nat) : Nat → Int32 := fun k => if hb (nI (mskF n h k)) i = 0 then nI 0 else (hgF D sp n h (parF n h k) - hgF D sp n h k) / nI (sizF n h k)
theorem HN_mono {dd : Nat → Nat → Nat} {n : Nat} {h : Hist} (hn : n ≤ 5) (hs : ∀ a b, dd a b = dd b a) (hd : ∀ a b, dd a b ≤ 1000) (hl : h.length < n) (hp : picked (dI dd) false n h) {a : Nat} : ∀ d, n ≤ a → a + d < n + h.length → HN dd n h a ≤ HN dd n h (a + d) := by
  intro d
  induction d with
  | zero => intro _ _; exact Nat.le_refl _
  | succ d ih =>
    intro h0 h1
    exact Nat.le_trans (ih h0 (by omega)) ((heights_ok hn hs hd h hl hp).2.2 (a + d) (by omega) (by omega))
theorem clH_sum {dd : Nat → Nat → Nat} {n : Nat} {h : Hist} (hn : n ≤ 5) (hn2 : 2 ≤ n) (hs : ∀ a b, dd a b = dd b a) (hd : ∀ a b, dd a b ≤ 1000) (hl : h.length + 1 = n) (hp : picked (dI dd) false n h) {i : Nat} (hi : i < n) : nI 1 + psum (clH (dI dd) false n h i) (2 * n - 2) = nI (wNat dd n h i) := by
  have ok := picked_ok hp
  have ho := heights_ok hn hs hd h (by omega) hp
  have key : ∀ k, k < 2 * n - 2 → clH (dI dd) false n h i k = nI (if (mskF n h k).testBit i = true then stepN (Hs (HA dd n h 1) (HA dd n h 2) (HA dd n h 3) (HA dd n h 4)) (k + 1 - n, parF n h k + 1 - n, sizF n h k) else 0) := by
    intro k hk
    unfold clH
    have sm := hist_small hn (show h.length < n by omega) ok (a := k) (by omega)
    by_cases c : (mskF n h k).testBit i = true
    · rw [if_neg ((hb_nI sm.2.2 (by omega)).mpr c), if_pos c, hg_HN hn hd h (by omega) ok, hg_HN hn hd h (by omega) ok]
      have hpar := hist_par hn (show h.length < n by omega) ok (a := k) (by omega)
      have htop := (hist_top hn hl ok).2 k (by omega)
      have hpar := hpar.resolve_left htop
      have H4 : ∀ j, j ≤ 4 → Hs (HA dd n h 1) (HA dd n h 2) (HA dd n h 3) (HA dd n h 4) j = if j = 0 then 0 else HA dd n h j := fun j hj => by
        match j, hj with
        | 0, _ => rfl
        | 1, _ => rfl
        | 2, _ => rfl
        | 3, _ => rfl
        | 4, _ => rfl
      have e1 : Hs (HA dd n h 1) (HA dd n h 2) (HA dd n h 3) (HA dd n h 4) (parF n h k + 1 - n) = HN dd n h (parF n h k) := by
        rw [H4 _ (by omega), if_neg (by omega)]
        unfold HA
        congr 1
        omega
      have e2 : Hs (HA dd n h 1) (HA dd n h 2) (HA dd n h 3) (HA dd n h 4) (k + 1 - n) = HN dd n h k := by
        rw [H4 _ (by omega)]
        by_cases z : k < n
        · rw [if_pos (by omega), ho.2.1 k z]
        · rw [if_neg (by omega)]
          unfold HA
          congr 1
          omega
      have mono : HN dd n h k ≤ HN dd n h (parF n h k) := by
        by_cases z : k < n
        · rw [ho.2.1 k z]; exact Nat.zero_le _
        · have := HN_mono hn hs hd (show h.length < n by omega) hp (a := k) (parF n h k - k) (by omega) (by omega)
          rw [show k + (parF n h k - k) = parF n h k by omega] at this
          exact this
      have u1 := ho.1 (parF n h k)
      rw [nI_sub mono, nI_div (by omega) (by omega)]
      unfold stepN
      rw [e1, e2]
    · rw [if_pos (Decidable.not_not.mp (fun z => c ((hb_nI sm.2.2 (by omega)).mp z))), if_neg c]
  rw [psum_congr key, psum_nI]
  unfold wNat cw chn
  rw [sum_filter (fun k => (mskF n h k).testBit i), nI_add]
theorem wNat_ok {dd : Nat → Nat → Nat} {n : Nat} {h : Hist} (hn : n ≤ 5) (hn2 : 2 ≤ n) (hs : ∀ a b, dd a b = dd b a) (hd : ∀ a b, dd a b ≤ 1000) (hl : h.length + 1 = n) (hp : picked (dI dd) false n h) {i : Nat} (hi : i < n) : 1 ≤ wNat dd n h i ∧ wNat dd n h i ≤ 11 ∧ prsN ((List.range n).map (wNat dd n h)) ≤ 166 * wNat dd n h i := by
  have ok := picked_ok hp
  have ho := heights_ok hn hs hd h (by omega) hp
  have mono : ∀ x y, n ≤ x → x ≤ y → y < n + h.length → HN dd n h x ≤ HN dd n h y := fun x y h0 h1 h2 => by
    have := HN_mono hn hs hd (show h.length < n by omega) hp (a := x) (y - x) h0 (by omega)
    rw [show x + (y - x) = y by omega] at this
    exact this
  have := hist_weights hn hn2 hl ok (a := HA dd n h 1) (b := HA dd n h 2) (c := HA dd n h 3) (d := HA dd n h 4) (mono _ _ (by omega) (by omega) (by omega)) (mono _ _ (by omega) (by omega) (by omega)) (mono _ _ (by omega) (by omega) (by omega)) (ho.1 _) hi
  exact ⟨by unfold wNat cw; omega, this.1, this.2⟩
/-- the weights that are used: naturals from 1 to 11, no pair sum above 166 times the least -/
def wtOK (n : Nat) (w : Nat → Nat) : Prop := ∀ i, i < n → 1 ≤ w i ∧ w i ≤ 11 ∧ prsN ((List.range n).map w) ≤ 166 * w i
def wtF (D : Nat → Nat → Int32) (sp : Bool) (n : Nat) (h : Hist) (wg : Int32) (i : Nat) : Int32 := if ¬ wg = 0 ∧ sp = false then nI 1 + psum (clH D sp n h i) (2 * n - 2) else nI 1
theorem weights_all {dd : Nat → Nat → Nat} {sp : Bool} {n : Nat} {h : Hist} {wg : Int32} (hn1 : 1 ≤ n) (hn : n ≤ 5) (hs : ∀ a b, dd a b = dd b a) (hd : ∀ a b, dd a b ≤ 1000) (hl : h.length + 1 = n) (hp : picked (dI dd) sp n h) : ∃ w, wtOK n w ∧ ∀ i, i < n → wtF (dI dd) sp n h wg i = nI (w i) := by
  by_cases c : ¬ wg = 0 ∧ sp = false
  · obtain ⟨c1, c2⟩ := c
    subst c2
    by_cases e : n = 1
    · subst e
      refine ⟨fun _ => 1, fun i hi => (by decide : 1 ≤ 1 ∧ 1 ≤ 11 ∧ prsN ((List.range 1).map fun _ => 1) ≤ 166 * 1), fun i hi => ?_⟩
      unfold wtF
      rw [if_pos ⟨c1, rfl⟩]
      exact Int32.add_zero _
    · refine ⟨wNat dd n h, fun i hi => wNat_ok hn (by omega) hs hd hl hp hi, fun i hi => ?_⟩
      unfold wtF
      rw [if_pos ⟨c1, rfl⟩]
      exact clH_sum hn (by omega) hs hd hl hp hi
  · refine ⟨fun _ => 1, fun i hi => ?_, fun i hi => if_neg c⟩
    exact (by decide : ∀ n, n ≤ 5 → (1 ≤ 1 ∧ 1 ≤ 11 ∧ prsN ((List.range n).map fun _ => 1) ≤ 166 * 1)) n hn
theorem clT_wg {D : Nat → Nat → Int32} {sp : Bool} {n : Nat} {h : Hist} {M : Mem} {wg : Int32} (hn : n ≤ 5) (hl : h.length + 1 = n) (hh : okH n h) (hT : clT D sp n h M) {i : Nat} (hi : i < n) : wgF M (parF n h) wg (2 * n - 2) i = wtF D sp n h wg i := by
  have hpa := fun k (hk : k < 2 * n - 2) => hist_par hn (show h.length < n by omega) hh (a := k) (by omega)
  obtain ⟨t1, t2, t3, t4, t5, t6⟩ := hT
  unfold wgF wtF
  by_cases c : ¬ wg = 0 ∧ sp = false
  · rw [if_pos ⟨c.1, t3.mpr c.2⟩, if_pos c]
    congr 1
    refine psum_congr (fun k hk => ?_)
    unfold clF clH
    have := hpa k hk
    rw [(t4 k (by omega)).1, (t4 k (by omega)).2.1, (t4 k (by omega)).2.2.2, (t4 (parF n h k) (by omega)).2.2.2]
  · rw [if_neg (fun z => c ⟨z.1, t3.mp z.2⟩), if_neg c]
