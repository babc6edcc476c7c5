/-! the class's tree: grow -/
theorem den_nz {sp : Bool} {n : Nat} {h : Hist} (hn : n ≤ 5) (hl : h.length < n) (hh : okH n h) {a b : Nat} (ha : a < n + h.length) (hb : b < n + h.length) : ¬ nI 100 * dnF sp n h a b = 0 := by
  have s1 := hist_small hn hl hh ha
  have s2 := hist_small hn hl hh hb
  unfold dnF
  by_cases c : sp = false
  · rw [if_pos c]
    exact (by decide +kernel : ∀ x, x < 6 → 1 ≤ x → ∀ y, y < 6 → 1 ≤ y → ¬ nI 100 * (nI x * nI y) = 0) _ (by omega) s1.1 _ (by omega) s2.1
  · rw [if_neg c]
    decide +kernel
theorem hist_new {n : Nat} {h : Hist} (hh : okH n h) : ∀ a, n + h.length ≤ a → parF n h a = 0 := by
  induction h with
  | nil => intro _ _; rfl
  | cons p h ih =>
    intro a ha
    obtain ⟨h1, h2, h3, _⟩ := hh
    have hlen : n + (p :: h).length = n + h.length + 1 := rfl
    show (if a = p.1 ∨ a = p.2 then n + h.length else parF n h a) = 0
    rw [if_neg (by omega)]
    exact ih h1 a (by omega)
theorem clT_join {D : Nat → Nat → Int32} {sp : Bool} {n l q : Nat} {h : Hist} {M N : Mem} {r : Option Value} (hn : n ≤ 5) (hl : h.length + 1 < n) (hh : okH n ((l, q) :: h)) (hT : clT D sp n h M) (hj : joinP M (n + h.length) l q r N) : clT D sp n ((l, q) :: h) N := by
  obtain ⟨h1, h2, h3, h4, h5⟩ := hh
  have h2 : l < q := h2
  have h3 : q < n + h.length := h3
  have h4 : parF n h l = 0 := h4
  have h5 : parF n h q = 0 := h5
  have hop := fun x (hx : x < n + h.length) => clT_open hn (by omega) h1 hT hx
  have hnum := clT_num hn (by omega) h1 hT (a := l) (b := q) (by omega) h3 (by omega) h4 h5
  obtain ⟨t1, t2, t3, t4, t5, t6⟩ := hT
  obtain ⟨-, ⟨j1, j2, j3, j4, j5⟩, j6, j7, j8, j9, j10, j11, j12⟩ := hj
  have hlen : n + ((l, q) :: h).length = n + h.length + 1 := rfl
  have sl := hist_small hn (by omega) h1 (a := l) (by omega)
  have sq := hist_small hn (by omega) h1 (a := q) (by omega)
  refine ⟨by rw [j9 9 (by decide)]; exact t1, j8, by rw [j9 11 (by decide)]; exact t3, fun a ha => ?_, fun a h0 ha => ?_, fun a b ha hb hab p1 p2 => ?_⟩
  · by_cases e : a = n + h.length
    · subst e
      refine ⟨?_, ?_, ?_, ?_⟩
      · rw [j3, (t4 l (by omega)).1, (t4 q h3).1, or_nI sl.2.2 sq.2.2]; show _ = nI (if _ then _ else _); rw [if_pos rfl]
      · rw [j4, (t4 l (by omega)).2.1, (t4 q h3).2.1, nI_add]; show _ = nI (if _ then _ else _); rw [if_pos rfl]
      · rw [j7, if_neg (by omega), if_pos rfl]
        unfold parI
        have : parF n ((l, q) :: h) (n + h.length) = 0 := by
          show (if _ then _ else _) = _
          rw [if_neg (by show ¬ (_ = l ∨ _ = q); omega)]
          exact (hist_new h1 _ (Nat.le_refl _))
        rw [if_pos this]
      · rw [j5, hnum.1, hnum.2]; show _ = (if _ then _ else _); rw [if_pos rfl]
    · have ha' : a < n + h.length := by omega
      obtain ⟨k1, k2, k3, k4, k5⟩ := j6 a e
      refine ⟨?_, ?_, ?_, ?_⟩
      · rw [k3, (t4 a ha').1]; show _ = nI (if _ then _ else _); rw [if_neg e]
      · rw [k4, (t4 a ha').2.1]; show _ = nI (if _ then _ else _); rw [if_neg e]
      · rw [j7]
        unfold parI
        by_cases c : a = l ∨ a = q
        · rw [if_pos c]
          have : parF n ((l, q) :: h) a = n + h.length := if_pos c
          rw [this, if_neg (by omega)]
        · rw [if_neg c, if_neg e, (t4 a ha').2.2.1]
          have : parF n ((l, q) :: h) a = parF n h a := if_neg c
          rw [this]; rfl
      · rw [k5, (t4 a ha').2.2.2]; show _ = (if _ then _ else _); rw [if_neg e]
  · by_cases e : a = n + h.length
    · subst e
      have : kidF n ((l, q) :: h) (n + h.length) = (l, q) := if_pos rfl
      rw [this]
      exact ⟨j1, j2⟩
    · have : kidF n ((l, q) :: h) a = kidF n h a := if_neg e
      rw [this, (j6 a e).1, (j6 a e).2.1]
      exact t5 a h0 (by omega)
  · have bw : ∀ x, bjM M l q x = if M 16 11 = 0 then M (26 + l) x + M (26 + q) x else (M (26 + l) x + M (26 + q) x - M (26 + l) q) / nI 2 := fun _ => rfl
    have hbj : ∀ x, x < n + h.length → x ≠ l → x ≠ q → parF n h x = 0 → bjM M l q x = jnF (bwF D sp n h) sp l q x := fun x hx hxl hxq ho => by
      rw [bw, t6 l x (by omega) hx (fun z => hxl z.symm) h4 ho, t6 q x h3 hx (fun z => hxq z.symm) h5 ho, t6 l q (by omega) h3 (by omega) h4 h5]
      unfold jnF
      by_cases c : sp = false
      · rw [if_pos (t3.mpr c), if_pos c]
      · rw [if_neg (fun z => c (t3.mp z)), if_neg c]
    have pe : ∀ x, parF n ((l, q) :: h) x = 0 → x ≠ l ∧ x ≠ q ∧ parF n h x = 0 := fun x hx => by
      have hx' : (if x = l ∨ x = q then n + h.length else parF n h x) = 0 := hx
      by_cases c : x = l ∨ x = q
      · rw [if_pos c] at hx'; omega
      · rw [if_neg c] at hx'; exact ⟨fun z => c (Or.inl z), fun z => c (Or.inr z), hx'⟩
    have P1 := pe a p1
    have P2 := pe b p2
    by_cases e : a = n + h.length
    · have e2 : b < n + h.length := by omega
      have hbw : bwF D sp n ((l, q) :: h) a b = jnF (bwF D sp n h) sp l q b := if_pos e
      rw [hbw, e, (j10 b e2 P2.1 P2.2.1 ((hop b e2).mpr P2.2.2)).1]
      exact hbj b e2 P2.1 P2.2.1 P2.2.2
    · have e1 : a < n + h.length := by omega
      by_cases e2 : b = n + h.length
      · have hbw : bwF D sp n ((l, q) :: h) a b = jnF (bwF D sp n h) sp l q a := (if_neg e).trans (if_pos e2)
        rw [hbw, e2, (j10 a e1 P1.1 P1.2.1 ((hop a e1).mpr P1.2.2)).2]
        exact hbj a e1 P1.1 P1.2.1 P1.2.2
      · have hbw : bwF D sp n ((l, q) :: h) a b = bwF D sp n h a b := (if_neg e).trans (if_neg e2)
        rw [hbw, j11 a b (by omega) e e2]
        exact t6 a b e1 (by omega) hab P1.2.2 P2.2.2
def oL : Pk → Int32
  | none => -1
  | some p => nI p.1
def oR : Pk → Int32
  | none => -1
  | some p => nI p.2
abbrev opM (M : Mem) : Nat → Bool := fun x => decide (M 23 x < 0)
theorem l_gr3 {M : Mem} {k a J : Nat} {s0 : Pk} {Post : Option Value → Mem → Prop} (hk : M 16 10 = nI k) (hk9 : k ≤ 9) (ha : a < k) (hg : goodP (opM M) k s0) (hp : G mX5_grow 17 [some (.ref 16), some (.int (nI J)), some (.int (oL (pkI (opM M) (nrM M k) a s0 (k - (a + 1))))), some (.int (oR (pkI (opM M) (nrM M k) a s0 (k - (a + 1))))), some (.int (nI (a + 1))), none] [] M Post) : ∀ d i s, d = k - (a + 1) - i → i ≤ k - (a + 1) → s = pkI (opM M) (nrM M k) a s0 i → G mX5_grow 32 [some (.ref 16), some (.int (nI J)), some (.int (oL s)), some (.int (oR s)), some (.int (nI a)), some (.int (nI (a + 1 + i)))] [] M Post := by
  intro d
  induction d using Nat.strongRecOn with
  | ind d ih =>
    intro i s hd hi hs
    have hgs : goodP (opM M) k s := by rw [hs]; exact goodP_I hg i (by omega)
    cases s with
    | none =>
      show G mX5_grow 32 [some (.ref 16), some (.int (nI J)), some (.int (-1)), some (.int (-1)), some (.int (nI a)), some (.int (nI (a + 1 + i)))] [] M Post
      refine blk 5 [(.iload 5, 0, 0, 0), (.aload_n 0, 0, 0, 0), (.getfield 49, 5, 10, 0)] [] (by decide +kernel) rfl (pc' := 38) (ls' := [some (.ref 16), some (.int (nI J)), some (.int (-1)), some (.int (-1)), some (.int (nI a)), some (.int (nI (a + 1 + i)))]) (st' := [.int (M 16 10), .int (nI (a + 1 + i))]) (M' := M) rfl ⟨trivial, trivial, rfl, trivial⟩ ?_
      refine g_icmp_ge (off := 50) (tgt := 88) (by decide +kernel) (by decide) (fun c1 => ?_) (fun c1 => ?_)
      · have nc1 : k ≤ (a + 1 + i) := (nI_leI (by omega) (by omega)).mp (by simpa only [hk, nI_add, pk_mul, nI_s1, n0_lit] using c1)
        refine blk 5 [(.iinc 4 1, 0, 0, (nI 1)), (.goto (-74), 17, 0, 0)] [] (by decide +kernel) rfl (pc' := 17) (ls' := [some (.ref 16), some (.int (nI J)), some (.int (-1)), some (.int (-1)), some (.int (nI a + nI 1)), some (.int (nI (a + 1 + i)))]) (st' := []) (M' := M) rfl ⟨trivial, trivial, trivial⟩ ?_
        have e : i = k - (a + 1) := by omega
        subst e
        refine G.sub (ls' := [some (.ref 16), some (.int (nI J)), some (.int (oL (pkI (opM M) (nrM M k) a s0 (k - (a + 1))))), some (.int (oR (pkI (opM M) (nrM M k) a s0 (k - (a + 1))))), some (.int (nI (a + 1))), none]) ?_ ⟨rfl, rfl, congrArg (fun z => some (Value.int z)) (by rw [← hs]; rfl), congrArg (fun z => some (Value.int z)) (by rw [← hs]; rfl), congrArg (fun z => some (Value.int z)) (by simp only [nI_add, nI_s1]), trivial⟩
        exact hp
      · have nc1 : (a + 1 + i) < k := by
          have z : ¬ nI k ≤ nI (a + 1 + i) := by simpa only [hk, nI_add, pk_mul, nI_s1, n0_lit] using c1
          rw [nI_leI (by omega) (by omega)] at z
          omega
        refine blk 5 [(.aload_n 0, 0, 0, 0), (.iload 4, 0, 0, 0)] [] (by decide +kernel) rfl (pc' := 44) (ls' := [some (.ref 16), some (.int (nI J)), some (.int (-1)), some (.int (-1)), some (.int (nI a)), some (.int (nI (a + 1 + i)))]) (st' := [.int (nI a), .ref 16]) (M' := M) rfl ⟨trivial, trivial, trivial⟩ ?_
        refine g_callV (s_isOpen _ (a := a) (by omega)) ok_X5_grow_X5_isOpen (by decide +kernel) rfl (c := 5) rfl (by decide) rfl (Nat.le_of_ble_eq_true rfl) (fun r M' h => ?_) rfl
        obtain ⟨hr, hM⟩ := h
        rw [hr, hM]
        show G _ 47 [some (.ref 16), some (.int (nI J)), some (.int (-1)), some (.int (-1)), some (.int (nI a)), some (.int (nI (a + 1 + i)))] [.int (bI (decide (M 23 a < 0)))] M _
        refine g_if_eq (off := 35) (tgt := 82) (by decide +kernel) (by decide) (fun c2 => ?_) (fun c2 => ?_)
        · refine blk 5 [(.iinc 5 1, 0, 0, (nI 1)), (.goto (-53), 32, 0, 0)] [] (by decide +kernel) rfl (pc' := 32) (ls' := [some (.ref 16), some (.int (nI J)), some (.int (-1)), some (.int (-1)), some (.int (nI a)), some (.int (nI (a + 1 + i) + nI 1))]) (st' := []) (M' := M) rfl ⟨trivial, trivial, trivial⟩ ?_
          have e : (none : Pk) = stpO (opM M) (nrM M k) a (a + 1 + i) (none : Pk) := by first | (exfalso; omega) | exact (if_neg (fun z => by first | exact absurd (bI_eq (b := opM M a) (by assumption)) (by rw [z.1]; decide) | exact absurd (bI_eq (b := opM M (a + 1 + i)) (by assumption)) (by rw [z.2.1]; decide) | exact absurd (bI_eq (b := nrM M k a (a + 1 + i) l q) (by assumption)) (by rw [show nrM M k a (a + 1 + i) l q = true from z.2.2]; decide))).symm
          refine G.sub (ls' := [some (.ref 16), some (.int (nI J)), some (.int (-1)), some (.int (-1)), some (.int (nI a)), some (.int (nI (a + 1 + (i + 1))))]) ?_ ⟨rfl, rfl, rfl, rfl, rfl, congrArg (fun z => some (Value.int z)) (by rw [nI_add]; congr 1), trivial⟩
          exact ih (d - 1) (by omega) (i + 1) ((none : Pk)) (by omega) (by omega) (by rw [pkI, ← hs]; exact e)
        · refine blk 5 [(.aload_n 0, 0, 0, 0), (.iload 5, 0, 0, 0)] [] (by decide +kernel) rfl (pc' := 53) (ls' := [some (.ref 16), some (.int (nI J)), some (.int (-1)), some (.int (-1)), some (.int (nI a)), some (.int (nI (a + 1 + i)))]) (st' := [.int (nI (a + 1 + i)), .ref 16]) (M' := M) rfl ⟨trivial, trivial, trivial⟩ ?_
          refine g_callV (s_isOpen _ (a := a + 1 + i) (by omega)) ok_X5_grow_X5_isOpen (by decide +kernel) rfl (c := 5) rfl (by decide) rfl (Nat.le_of_ble_eq_true rfl) (fun r M' h => ?_) rfl
          obtain ⟨hr, hM⟩ := h
          rw [hr, hM]
          show G _ 56 [some (.ref 16), some (.int (nI J)), some (.int (-1)), some (.int (-1)), some (.int (nI a)), some (.int (nI (a + 1 + i)))] [.int (bI (decide (M 23 (a + 1 + i) < 0)))] M _
          refine g_if_eq (off := 26) (tgt := 82) (by decide +kernel) (by decide) (fun c3 => ?_) (fun c3 => ?_)
          · refine blk 5 [(.iinc 5 1, 0, 0, (nI 1)), (.goto (-53), 32, 0, 0)] [] (by decide +kernel) rfl (pc' := 32) (ls' := [some (.ref 16), some (.int (nI J)), some (.int (-1)), some (.int (-1)), some (.int (nI a)), some (.int (nI (a + 1 + i) + nI 1))]) (st' := []) (M' := M) rfl ⟨trivial, trivial, trivial⟩ ?_
            have e : (none : Pk) = stpO (opM M) (nrM M k) a (a + 1 + i) (none : Pk) := by first | (exfalso; omega) | exact (if_neg (fun z => by first | exact absurd (bI_eq (b := opM M a) (by assumption)) (by rw [z.1]; decide) | exact absurd (bI_eq (b := opM M (a + 1 + i)) (by assumption)) (by rw [z.2.1]; decide) | exact absurd (bI_eq (b := nrM M k a (a + 1 + i) l q) (by assumption)) (by rw [show nrM M k a (a + 1 + i) l q = true from z.2.2]; decide))).symm
            refine G.sub (ls' := [some (.ref 16), some (.int (nI J)), some (.int (-1)), some (.int (-1)), some (.int (nI a)), some (.int (nI (a + 1 + (i + 1))))]) ?_ ⟨rfl, rfl, rfl, rfl, rfl, congrArg (fun z => some (Value.int z)) (by rw [nI_add]; congr 1), trivial⟩
            exact ih (d - 1) (by omega) (i + 1) ((none : Pk)) (by omega) (by omega) (by rw [pkI, ← hs]; exact e)
          · refine blk 5 [(.iload_n 2, 0, 0, 0)] [] (by decide +kernel) rfl (pc' := 60) (ls' := [some (.ref 16), some (.int (nI J)), some (.int (-1)), some (.int (-1)), some (.int (nI a)), some (.int (nI (a + 1 + i)))]) (st' := [.int (-1)]) (M' := M) rfl ⟨trivial, trivial⟩ ?_
            refine g_if_lt (off := 16) (tgt := 76) (by decide +kernel) (by decide) (fun c4 => ?_) (fun c4 => ?_)
            · refine blk 5 [(.iload 4, 0, 0, 0), (.istore_n 2, 0, 0, 0), (.iload 5, 0, 0, 0), (.istore_n 3, 0, 0, 0), (.iinc 5 1, 0, 0, (nI 1)), (.goto (-53), 32, 0, 0)] [] (by decide +kernel) rfl (pc' := 32) (ls' := [some (.ref 16), some (.int (nI J)), some (.int (nI a)), some (.int (nI (a + 1 + i))), some (.int (nI a)), some (.int (nI (a + 1 + i) + nI 1))]) (st' := []) (M' := M) rfl ⟨trivial, trivial, trivial, trivial, trivial, trivial, trivial⟩ ?_
              have e : some (a, a + 1 + i) = stpO (opM M) (nrM M k) a (a + 1 + i) (none : Pk) := by first | (exfalso; omega) | exact (if_pos ⟨bI_ne (by assumption), bI_ne (by assumption), by first | rfl | exact bI_ne (by assumption)⟩).symm
              refine G.sub (ls' := [some (.ref 16), some (.int (nI J)), some (.int (nI a)), some (.int (nI (a + 1 + i))), some (.int (nI a)), some (.int (nI (a + 1 + (i + 1))))]) ?_ ⟨rfl, rfl, rfl, rfl, rfl, congrArg (fun z => some (Value.int z)) (by rw [nI_add]; congr 1), trivial⟩
              exact ih (d - 1) (by omega) (i + 1) (some (a, a + 1 + i)) (by omega) (by omega) (by rw [pkI, ← hs]; exact e)
            · exact absurd (by decide +kernel) c4
    | some p =>
      obtain ⟨l, q⟩ := p
      have hlq := hgs l q rfl
      have hlq1 := hlq.1
      have hlq2 := hlq.2.1
      show G mX5_grow 32 [some (.ref 16), some (.int (nI J)), some (.int (nI l)), some (.int (nI q)), some (.int (nI a)), some (.int (nI (a + 1 + i)))] [] M Post
      refine blk 5 [(.iload 5, 0, 0, 0), (.aload_n 0, 0, 0, 0), (.getfield 49, 5, 10, 0)] [] (by decide +kernel) rfl (pc' := 38) (ls' := [some (.ref 16), some (.int (nI J)), some (.int (nI l)), some (.int (nI q)), some (.int (nI a)), some (.int (nI (a + 1 + i)))]) (st' := [.int (M 16 10), .int (nI (a + 1 + i))]) (M' := M) rfl ⟨trivial, trivial, rfl, trivial⟩ ?_
      refine g_icmp_ge (off := 50) (tgt := 88) (by decide +kernel) (by decide) (fun c1 => ?_) (fun c1 => ?_)
      · have nc1 : k ≤ (a + 1 + i) := (nI_leI (by omega) (by omega)).mp (by simpa only [hk, nI_add, pk_mul, nI_s1, n0_lit] using c1)
        refine blk 5 [(.iinc 4 1, 0, 0, (nI 1)), (.goto (-74), 17, 0, 0)] [] (by decide +kernel) rfl (pc' := 17) (ls' := [some (.ref 16), some (.int (nI J)), some (.int (nI l)), some (.int (nI q)), some (.int (nI a + nI 1)), some (.int (nI (a + 1 + i)))]) (st' := []) (M' := M) rfl ⟨trivial, trivial, trivial⟩ ?_
        have e : i = k - (a + 1) := by omega
        subst e
        refine G.sub (ls' := [some (.ref 16), some (.int (nI J)), some (.int (oL (pkI (opM M) (nrM M k) a s0 (k - (a + 1))))), some (.int (oR (pkI (opM M) (nrM M k) a s0 (k - (a + 1))))), some (.int (nI (a + 1))), none]) ?_ ⟨rfl, rfl, congrArg (fun z => some (Value.int z)) (by rw [← hs]; rfl), congrArg (fun z => some (Value.int z)) (by rw [← hs]; rfl), congrArg (fun z => some (Value.int z)) (by simp only [nI_add, nI_s1]), trivial⟩
        exact hp
      · have nc1 : (a + 1 + i) < k := by
          have z : ¬ nI k ≤ nI (a + 1 + i) := by simpa only [hk, nI_add, pk_mul, nI_s1, n0_lit] using c1
          rw [nI_leI (by omega) (by omega)] at z
          omega
        refine blk 5 [(.aload_n 0, 0, 0, 0), (.iload 4, 0, 0, 0)] [] (by decide +kernel) rfl (pc' := 44) (ls' := [some (.ref 16), some (.int (nI J)), some (.int (nI l)), some (.int (nI q)), some (.int (nI a)), some (.int (nI (a + 1 + i)))]) (st' := [.int (nI a), .ref 16]) (M' := M) rfl ⟨trivial, trivial, trivial⟩ ?_
        refine g_callV (s_isOpen _ (a := a) (by omega)) ok_X5_grow_X5_isOpen (by decide +kernel) rfl (c := 5) rfl (by decide) rfl (Nat.le_of_ble_eq_true rfl) (fun r M' h => ?_) rfl
        obtain ⟨hr, hM⟩ := h
        rw [hr, hM]
        show G _ 47 [some (.ref 16), some (.int (nI J)), some (.int (nI l)), some (.int (nI q)), some (.int (nI a)), some (.int (nI (a + 1 + i)))] [.int (bI (decide (M 23 a < 0)))] M _
        refine g_if_eq (off := 35) (tgt := 82) (by decide +kernel) (by decide) (fun c2 => ?_) (fun c2 => ?_)
        · refine blk 5 [(.iinc 5 1, 0, 0, (nI 1)), (.goto (-53), 32, 0, 0)] [] (by decide +kernel) rfl (pc' := 32) (ls' := [some (.ref 16), some (.int (nI J)), some (.int (nI l)), some (.int (nI q)), some (.int (nI a)), some (.int (nI (a + 1 + i) + nI 1))]) (st' := []) (M' := M) rfl ⟨trivial, trivial, trivial⟩ ?_
          have e : (some (l, q) : Pk) = stpO (opM M) (nrM M k) a (a + 1 + i) (some (l, q) : Pk) := by first | (exfalso; omega) | exact (if_neg (fun z => by first | exact absurd (bI_eq (b := opM M a) (by assumption)) (by rw [z.1]; decide) | exact absurd (bI_eq (b := opM M (a + 1 + i)) (by assumption)) (by rw [z.2.1]; decide) | exact absurd (bI_eq (b := nrM M k a (a + 1 + i) l q) (by assumption)) (by rw [show nrM M k a (a + 1 + i) l q = true from z.2.2]; decide))).symm
          refine G.sub (ls' := [some (.ref 16), some (.int (nI J)), some (.int (nI l)), some (.int (nI q)), some (.int (nI a)), some (.int (nI (a + 1 + (i + 1))))]) ?_ ⟨rfl, rfl, rfl, rfl, rfl, congrArg (fun z => some (Value.int z)) (by rw [nI_add]; congr 1), trivial⟩
          exact ih (d - 1) (by omega) (i + 1) ((some (l, q) : Pk)) (by omega) (by omega) (by rw [pkI, ← hs]; exact e)
        · refine blk 5 [(.aload_n 0, 0, 0, 0), (.iload 5, 0, 0, 0)] [] (by decide +kernel) rfl (pc' := 53) (ls' := [some (.ref 16), some (.int (nI J)), some (.int (nI l)), some (.int (nI q)), some (.int (nI a)), some (.int (nI (a + 1 + i)))]) (st' := [.int (nI (a + 1 + i)), .ref 16]) (M' := M) rfl ⟨trivial, trivial, trivial⟩ ?_
          refine g_callV (s_isOpen _ (a := a + 1 + i) (by omega)) ok_X5_grow_X5_isOpen (by decide +kernel) rfl (c := 5) rfl (by decide) rfl (Nat.le_of_ble_eq_true rfl) (fun r M' h => ?_) rfl
          obtain ⟨hr, hM⟩ := h
          rw [hr, hM]
          show G _ 56 [some (.ref 16), some (.int (nI J)), some (.int (nI l)), some (.int (nI q)), some (.int (nI a)), some (.int (nI (a + 1 + i)))] [.int (bI (decide (M 23 (a + 1 + i) < 0)))] M _
          refine g_if_eq (off := 26) (tgt := 82) (by decide +kernel) (by decide) (fun c3 => ?_) (fun c3 => ?_)
          · refine blk 5 [(.iinc 5 1, 0, 0, (nI 1)), (.goto (-53), 32, 0, 0)] [] (by decide +kernel) rfl (pc' := 32) (ls' := [some (.ref 16), some (.int (nI J)), some (.int (nI l)), some (.int (nI q)), some (.int (nI a)), some (.int (nI (a + 1 + i) + nI 1))]) (st' := []) (M' := M) rfl ⟨trivial, trivial, trivial⟩ ?_
            have e : (some (l, q) : Pk) = stpO (opM M) (nrM M k) a (a + 1 + i) (some (l, q) : Pk) := by first | (exfalso; omega) | exact (if_neg (fun z => by first | exact absurd (bI_eq (b := opM M a) (by assumption)) (by rw [z.1]; decide) | exact absurd (bI_eq (b := opM M (a + 1 + i)) (by assumption)) (by rw [z.2.1]; decide) | exact absurd (bI_eq (b := nrM M k a (a + 1 + i) l q) (by assumption)) (by rw [show nrM M k a (a + 1 + i) l q = true from z.2.2]; decide))).symm
            refine G.sub (ls' := [some (.ref 16), some (.int (nI J)), some (.int (nI l)), some (.int (nI q)), some (.int (nI a)), some (.int (nI (a + 1 + (i + 1))))]) ?_ ⟨rfl, rfl, rfl, rfl, rfl, congrArg (fun z => some (Value.int z)) (by rw [nI_add]; congr 1), trivial⟩
            exact ih (d - 1) (by omega) (i + 1) ((some (l, q) : Pk)) (by omega) (by omega) (by rw [pkI, ← hs]; exact e)
          · refine blk 5 [(.iload_n 2, 0, 0, 0)] [] (by decide +kernel) rfl (pc' := 60) (ls' := [some (.ref 16), some (.int (nI J)), some (.int (nI l)), some (.int (nI q)), some (.int (nI a)), some (.int (nI (a + 1 + i)))]) (st' := [.int (nI l)]) (M' := M) rfl ⟨trivial, trivial⟩ ?_
            refine g_if_lt (off := 16) (tgt := 76) (by decide +kernel) (by decide) (fun c4 => ?_) (fun c4 => ?_)
            · have nc4 : l < 0 := (nI_ltI (by omega) (by omega)).mp (by simpa only [hk, nI_add, pk_mul, nI_s1, n0_lit] using c4)
              refine blk 5 [(.iload 4, 0, 0, 0), (.istore_n 2, 0, 0, 0), (.iload 5, 0, 0, 0), (.istore_n 3, 0, 0, 0), (.iinc 5 1, 0, 0, (nI 1)), (.goto (-53), 32, 0, 0)] [] (by decide +kernel) rfl (pc' := 32) (ls' := [some (.ref 16), some (.int (nI J)), some (.int (nI a)), some (.int (nI (a + 1 + i))), some (.int (nI a)), some (.int (nI (a + 1 + i) + nI 1))]) (st' := []) (M' := M) rfl ⟨trivial, trivial, trivial, trivial, trivial, trivial, trivial⟩ ?_
              have e : some (a, a + 1 + i) = stpO (opM M) (nrM M k) a (a + 1 + i) (some (l, q) : Pk) := by first | (exfalso; omega) | exact (if_pos ⟨bI_ne (by assumption), bI_ne (by assumption), by first | rfl | exact bI_ne (by assumption)⟩).symm
              refine G.sub (ls' := [some (.ref 16), some (.int (nI J)), some (.int (nI a)), some (.int (nI (a + 1 + i))), some (.int (nI a)), some (.int (nI (a + 1 + (i + 1))))]) ?_ ⟨rfl, rfl, rfl, rfl, rfl, congrArg (fun z => some (Value.int z)) (by rw [nI_add]; congr 1), trivial⟩
              exact ih (d - 1) (by omega) (i + 1) (some (a, a + 1 + i)) (by omega) (by omega) (by rw [pkI, ← hs]; exact e)
            · have nc4 : 0 ≤ l := by
                have z : ¬ nI l < nI 0 := by simpa only [hk, nI_add, pk_mul, nI_s1, n0_lit] using c4
                rw [nI_ltI (by omega) (by omega)] at z
                omega
              refine blk 5 [(.aload_n 0, 0, 0, 0), (.iload 4, 0, 0, 0), (.iload 5, 0, 0, 0), (.iload_n 2, 0, 0, 0), (.iload_n 3, 0, 0, 0)] [] (by decide +kernel) rfl (pc' := 70) (ls' := [some (.ref 16), some (.int (nI J)), some (.int (nI l)), some (.int (nI q)), some (.int (nI a)), some (.int (nI (a + 1 + i)))]) (st' := [.int (nI q), .int (nI l), .int (nI (a + 1 + i)), .int (nI a), .ref 16]) (M' := M) rfl ⟨trivial, trivial, trivial, trivial, trivial, trivial⟩ ?_
              refine g_callV (s_near M (k := k) (a := a) (b := a + 1 + i) (l := l) (q := q) hk hk9 (by omega) (by omega) (by omega) (by omega)) ok_X5_grow_X5_isNearer (by decide +kernel) rfl (c := 5) rfl (by decide) rfl (Nat.le_of_ble_eq_true rfl) (fun r M' h => ?_) rfl
              obtain ⟨hr, hM⟩ := h
              rw [hr, hM]
              show G _ 73 [some (.ref 16), some (.int (nI J)), some (.int (nI l)), some (.int (nI q)), some (.int (nI a)), some (.int (nI (a + 1 + i)))] [.int (bI (nrM M k a (a + 1 + i) l q))] M _
              refine g_if_eq (off := 9) (tgt := 82) (by decide +kernel) (by decide) (fun c5 => ?_) (fun c5 => ?_)
              · refine blk 5 [(.iinc 5 1, 0, 0, (nI 1)), (.goto (-53), 32, 0, 0)] [] (by decide +kernel) rfl (pc' := 32) (ls' := [some (.ref 16), some (.int (nI J)), some (.int (nI l)), some (.int (nI q)), some (.int (nI a)), some (.int (nI (a + 1 + i) + nI 1))]) (st' := []) (M' := M) rfl ⟨trivial, trivial, trivial⟩ ?_
                have e : (some (l, q) : Pk) = stpO (opM M) (nrM M k) a (a + 1 + i) (some (l, q) : Pk) := by first | (exfalso; omega) | exact (if_neg (fun z => by first | exact absurd (bI_eq (b := opM M a) (by assumption)) (by rw [z.1]; decide) | exact absurd (bI_eq (b := opM M (a + 1 + i)) (by assumption)) (by rw [z.2.1]; decide) | exact absurd (bI_eq (b := nrM M k a (a + 1 + i) l q) (by assumption)) (by rw [show nrM M k a (a + 1 + i) l q = true from z.2.2]; decide))).symm
                refine G.sub (ls' := [some (.ref 16), some (.int (nI J)), some (.int (nI l)), some (.int (nI q)), some (.int (nI a)), some (.int (nI (a + 1 + (i + 1))))]) ?_ ⟨rfl, rfl, rfl, rfl, rfl, congrArg (fun z => some (Value.int z)) (by rw [nI_add]; congr 1), trivial⟩
                exact ih (d - 1) (by omega) (i + 1) ((some (l, q) : Pk)) (by omega) (by omega) (by rw [pkI, ← hs]; exact e)
              · refine blk 5 [(.iload 4, 0, 0, 0), (.istore_n 2, 0, 0, 0), (.iload 5, 0, 0, 0), (.istore_n 3, 0, 0, 0), (.iinc 5 1, 0, 0, (nI 1)), (.goto (-53), 32, 0, 0)] [] (by decide +kernel) rfl (pc' := 32) (ls' := [some (.ref 16), some (.int (nI J)), some (.int (nI a)), some (.int (nI (a + 1 + i))), some (.int (nI a)), some (.int (nI (a + 1 + i) + nI 1))]) (st' := []) (M' := M) rfl ⟨trivial, trivial, trivial, trivial, trivial, trivial, trivial⟩ ?_
                have e : some (a, a + 1 + i) = stpO (opM M) (nrM M k) a (a + 1 + i) (some (l, q) : Pk) := by first | (exfalso; omega) | exact (if_pos ⟨bI_ne (by assumption), bI_ne (by assumption), by first | rfl | exact bI_ne (by assumption)⟩).symm
                refine G.sub (ls' := [some (.ref 16), some (.int (nI J)), some (.int (nI a)), some (.int (nI (a + 1 + i))), some (.int (nI a)), some (.int (nI (a + 1 + (i + 1))))]) ?_ ⟨rfl, rfl, rfl, rfl, rfl, congrArg (fun z => some (Value.int z)) (by rw [nI_add]; congr 1), trivial⟩
                exact ih (d - 1) (by omega) (i + 1) (some (a, a + 1 + i)) (by omega) (by omega) (by rw [pkI, ← hs]; exact e)
theorem l_gr2 {M : Mem} {k J : Nat} {Post : Option Value → Mem → Prop} (hk : M 16 10 = nI k) (hk9 : k ≤ 9) (hp : G mX5_grow 94 [some (.ref 16), some (.int (nI J)), some (.int (oL (pkO (opM M) (nrM M k) k k))), some (.int (oR (pkO (opM M) (nrM M k) k k))), none, none] [] M Post) : ∀ d a, d = k - a → a ≤ k → G mX5_grow 17 [some (.ref 16), some (.int (nI J)), some (.int (oL (pkO (opM M) (nrM M k) k a))), some (.int (oR (pkO (opM M) (nrM M k) k a))), some (.int (nI a)), none] [] M Post := by
  intro d
  induction d using Nat.strongRecOn with
  | ind d ih =>
    intro a hd ha
    refine blk 5 [(.iload 4, 0, 0, 0), (.aload_n 0, 0, 0, 0), (.getfield 49, 5, 10, 0)] [] (by decide +kernel) rfl (pc' := 23) (ls' := [some (.ref 16), some (.int (nI J)), some (.int (oL (pkO (opM M) (nrM M k) k a))), some (.int (oR (pkO (opM M) (nrM M k) k a))), some (.int (nI a)), none]) (st' := [.int (M 16 10), .int (nI a)]) (M' := M) rfl ⟨trivial, trivial, rfl, trivial⟩ ?_
    refine g_icmp_ge (off := 71) (tgt := 94) (by decide +kernel) (by decide) (fun c1 => ?_) (fun c1 => ?_)
    · have nc1 : k ≤ a := (nI_leI (by omega) (by omega)).mp (by simpa only [hk, nI_add, pk_mul, nI_s1, n0_lit] using c1)
      have e : a = k := by omega
      subst e
      refine G.sub (ls' := [some (.ref 16), some (.int (nI J)), some (.int (oL (pkO (opM M) (nrM M a) a a))), some (.int (oR (pkO (opM M) (nrM M a) a a))), none, none]) ?_ ⟨rfl, rfl, congrArg (fun z => some (Value.int z)) (by simp only [nI_add, nI_s1]), congrArg (fun z => some (Value.int z)) (by simp only [nI_add, nI_s1]), trivial⟩
      exact hp
    · have nc1 : a < k := by
        have z : ¬ nI k ≤ nI a := by simpa only [hk, nI_add, pk_mul, nI_s1, n0_lit] using c1
        rw [nI_leI (by omega) (by omega)] at z
        omega
      refine blk 5 [(.iload 4, 0, 0, 0), (.iconst 1, 0, 0, (nI 1)), (.iadd, 0, 0, 0), (.istore 5, 0, 0, 0)] [] (by decide +kernel) rfl (pc' := 32) (ls' := [some (.ref 16), some (.int (nI J)), some (.int (oL (pkO (opM M) (nrM M k) k a))), some (.int (oR (pkO (opM M) (nrM M k) k a))), some (.int (nI a)), some (.int ((nI a) + (nI 1)))]) (st' := []) (M' := M) rfl ⟨trivial, trivial, trivial, trivial, trivial⟩ ?_
      refine G.sub (ls' := [some (.ref 16), some (.int (nI J)), some (.int (oL (pkO (opM M) (nrM M k) k a))), some (.int (oR (pkO (opM M) (nrM M k) k a))), some (.int (nI a)), some (.int (nI (a + 1 + 0)))]) ?_ ⟨rfl, rfl, rfl, rfl, rfl, congrArg (fun z => some (Value.int z)) (nI_add _ _), trivial⟩
      exact l_gr3 hk hk9 (by omega) (goodP_O a (by omega)) (ih (d - 1) (by omega) (a + 1) (by omega) (by omega)) _ 0 _ rfl (by omega) rfl
theorem l_gr1 {M : Mem} {k J l q : Nat} {Post : Option Value → Mem → Prop} (hk : M 16 10 = nI k) (hk9 : k < 9) (hl : l < k) (hq : q < k) (hdz : ¬ nI 100 * denM M l q = 0) (hp : ∀ r N, joinP M k l q r N → G mX5_grow 2 [some (.ref 16), some (.int (nI (J + 1))), none, none, none, none] [] N Post) : G mX5_grow 94 [some (.ref 16), some (.int (nI J)), some (.int (nI l)), some (.int (nI q)), none, none] [] M Post := by
  refine blk 5 [(.iload_n 2, 0, 0, 0)] [] (by decide +kernel) rfl (pc' := 95) (ls' := [some (.ref 16), some (.int (nI J)), some (.int (nI l)), some (.int (nI q)), none, none]) (st' := [.int (nI l)]) (M' := M) rfl ⟨trivial, trivial⟩ ?_
  refine g_if_lt (off := 9) (tgt := 104) (by decide +kernel) (by decide) (fun c1 => ?_) (fun c1 => ?_)
  · have nc1 : l < 0 := (nI_ltI (by omega) (by omega)).mp (by simpa only [nI_add, pk_mul, nI_s1, n0_lit] using c1)
    refine blk 5 [(.iinc 1 1, 0, 0, (nI 1)), (.goto (-105), 2, 0, 0)] [] (by decide +kernel) rfl (pc' := 2) (ls' := [some (.ref 16), some (.int (nI J + nI 1)), some (.int (nI l)), some (.int (nI q)), none, none]) (st' := []) (M' := M) rfl ⟨trivial, trivial, trivial⟩ ?_
    exfalso
    omega
  · have nc1 : 0 ≤ l := by
      have z : ¬ nI l < nI 0 := by simpa only [nI_add, pk_mul, nI_s1, n0_lit] using c1
      rw [nI_ltI (by omega) (by omega)] at z
      omega
    refine blk 5 [(.aload_n 0, 0, 0, 0), (.iload_n 2, 0, 0, 0), (.iload_n 3, 0, 0, 0)] [] (by decide +kernel) rfl (pc' := 101) (ls' := [some (.ref 16), some (.int (nI J)), some (.int (nI l)), some (.int (nI q)), none, none]) (st' := [.int (nI q), .int (nI l), .ref 16]) (M' := M) rfl ⟨trivial, trivial, trivial, trivial⟩ ?_
    refine g_callV (s_join M (k := k) (l := l) (q := q) hk (by omega) (by omega) (by omega) hdz) ok_X5_grow_X5_join (by decide +kernel) rfl (c := 5) rfl (by decide) rfl (Nat.le_of_ble_eq_true rfl) (fun r N h => ?_) rfl
    have hJ := h
    rw [h.1]
    show G _ 104 [some (.ref 16), some (.int (nI J)), some (.int (nI l)), some (.int (nI q)), none, none] [] N _
    refine blk 5 [(.iinc 1 1, 0, 0, (nI 1)), (.goto (-105), 2, 0, 0)] [] (by decide +kernel) rfl (pc' := 2) (ls' := [some (.ref 16), some (.int (nI J + nI 1)), some (.int (nI l)), some (.int (nI q)), none, none]) (st' := []) (M' := N) rfl ⟨trivial, trivial, trivial⟩ ?_
    refine G.sub (ls' := [some (.ref 16), some (.int (nI (J + 1))), none, none, none, none]) ?_ ⟨rfl, congrArg (fun z => some (Value.int z)) (by simp only [nI_add, nI_s1]), trivial⟩
    exact hp _ N hJ
theorem l_grow {D : Nat → Nat → Int32} {sp : Bool} {M : Mem} {n : Nat} (hn1 : 1 ≤ n) (hn5 : n ≤ 5) : ∀ d (h : Hist) N, d = n - 1 - h.length → h.length ≤ n - 1 → picked D sp n h → clT D sp n h N → (∀ z, z < 16 ∨ 34 < z ∨ z = 19 ∨ z = 24 ∨ z = 25 → N z = M z) → G mX5_grow 2 [some (.ref 16), some (.int (nI (h.length + 1))), none, none, none, none] [] N (fun r N => r = none ∧ ∃ h, h.length + 1 = n ∧ picked D sp n h ∧ clT D sp n h N ∧ (∀ z, z < 16 ∨ 34 < z ∨ z = 19 ∨ z = 24 ∨ z = 25 → N z = M z)) := by
  intro d
  induction d using Nat.strongRecOn with
  | ind d ih =>
    intro h N hd hle hpi hT hf
    have hok := picked_ok hpi
    refine blk 5 [(.iload_n 1, 0, 0, 0), (.aload_n 0, 0, 0, 0), (.getfield 45, 5, 9, 0)] [] (by decide +kernel) rfl (pc' := 7) (ls' := [some (.ref 16), some (.int (nI (h.length + 1))), none, none, none, none]) (st' := [.int (N 16 9), .int (nI (h.length + 1))]) (M' := N) rfl ⟨trivial, trivial, rfl, trivial⟩ ?_
    refine g_icmp_ge (off := 103) (tgt := 110) (by decide +kernel) (by decide) (fun c1 => ?_) (fun c1 => ?_)
    · have nc1 : n ≤ (h.length + 1) := (nI_leI (by omega) (by omega)).mp (by simpa only [hT.1, nI_add, pk_mul, nI_s1, n0_lit] using c1)
      exact g_return (by decide +kernel) rfl ⟨rfl, h, by omega, hpi, hT, hf⟩
    · have nc1 : (h.length + 1) < n := by
        have z : ¬ nI n ≤ nI (h.length + 1) := by simpa only [hT.1, nI_add, pk_mul, nI_s1, n0_lit] using c1
        rw [nI_leI (by omega) (by omega)] at z
        omega
      refine blk 5 [(.iconst (-1), 0, 0, (-1)), (.istore_n 2, 0, 0, 0), (.iconst (-1), 0, 0, (-1)), (.istore_n 3, 0, 0, 0), (.iconst 0, 0, 0, (nI 0)), (.istore 4, 0, 0, 0)] [] (by decide +kernel) rfl (pc' := 17) (ls' := [some (.ref 16), some (.int (nI (h.length + 1))), some (.int (-1)), some (.int (-1)), some (.int (nI 0)), none]) (st' := []) (M' := N) rfl ⟨trivial, trivial, trivial, trivial, trivial, trivial, trivial⟩ ?_
      refine G.sub (ls' := [some (.ref 16), some (.int (nI (h.length + 1))), some (.int (oL (pkO (opM N) (nrM N (n + h.length)) (n + h.length) 0))), some (.int (oR (pkO (opM N) (nrM N (n + h.length)) (n + h.length) 0))), some (.int (nI 0)), none]) ?_ ⟨rfl, rfl, congrArg (fun z => some (Value.int z)) rfl, congrArg (fun z => some (Value.int z)) rfl, rfl, trivial⟩
      refine l_gr2 hT.2.1 (by omega) ?_ _ 0 rfl (by omega)
      obtain ⟨⟨l, q⟩, hpk⟩ := pick_some (D := D) (sp := sp) hn5 (show h.length + 1 < n by omega) hok
      rw [clT_pick hn5 (by omega) hok hT, hpk]
      have hpo := pick_ok hpk
      have hpo1 : l < q := hpo.1
      have hpo2 : q < n + h.length := hpo.2.1
      refine l_gr1 hT.2.1 (by omega) (by omega) (by omega) ?_ (fun r N' hJ => ?_)
      · rw [(clT_num hn5 (by omega) hok hT (a := l) (b := q) (by omega) (by omega) (by omega) hpo.2.2.1 hpo.2.2.2).2]; exact den_nz hn5 (by omega) hok (by omega) (by omega)
      · exact ih (d - 1) (by omega) ((l, q) :: h) N' (by show d - 1 = n - 1 - (h.length + 1); omega) (by show h.length + 1 ≤ n - 1; omega) ⟨hpi, hpk⟩ (clT_join hn5 (by omega) ⟨hok, hpo⟩ hT hJ) (fun z hz => by rw [hJ.2.2.2.2.2.2.2.2 z hz]; exact hf z hz)
theorem s_grow {D : Nat → Nat → Int32} {sp : Bool} (M : Mem) {n : Nat} (hn1 : 1 ≤ n) (hn5 : n ≤ 5) (hT : clT D sp n [] M) : Spec mX5_grow [.ref 16] M (fun r N => r = none ∧ ∃ h, h.length + 1 = n ∧ picked D sp n h ∧ clT D sp n h N ∧ (∀ z, z < 16 ∨ 34 < z ∨ z = 19 ∨ z = 24 ∨ z = 25 → N z = M z)) := by
  refine Spec.of (by decide) (by simp [Value.category]) (Nat.le_of_ble_eq_true rfl) ?_
  refine blk 5 [(.iconst 1, 0, 0, (nI 1)), (.istore_n 1, 0, 0, 0)] [] (by decide +kernel) rfl (pc' := 2) (ls' := [some (.ref 16), some (.int (nI 1)), none, none, none, none]) (st' := []) (M' := M) rfl ⟨trivial, trivial, trivial⟩ ?_
  exact l_grow hn1 hn5 _ [] M rfl (by show 0 ≤ n - 1; omega) trivial hT (fun _ _ => rfl)
