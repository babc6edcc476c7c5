/-! the reference's tree: join, as a step of the history -/
theorem bwF_sym {D : Nat → Nat → Int32} {sp : Bool} {n : Nat} (hs : ∀ a b, D a b = D b a) : ∀ (h : Hist) (a b : Nat), bwF D sp n h a b = bwF D sp n h b a := by
  intro h
  induction h with
  | nil => intro a b; rw [bwF, bwF, hs a b]
  | cons p h ih =>
    intro a b
    rw [bwF, bwF]
    by_cases e : a = n + h.length
    · rw [if_pos e]
      by_cases e2 : b = n + h.length
      · rw [if_pos e2, e, e2]
      · rw [if_neg e2, if_pos e]
    · rw [if_neg e, if_neg e]
      by_cases e2 : b = n + h.length
      · rw [if_pos e2, if_pos e2]
      · rw [if_neg e2, if_neg e2]; exact ih a b
theorem mT_join {dd : Nat → Nat → Nat} {sp : Bool} {n l q : Nat} {h : Hist} {A N : Mem} (hn : n ≤ 5) (hl : h.length + 1 < n) (hs : ∀ a b, dd a b = dd b a) (hd : ∀ a b, dd a b ≤ 1000) (hh : okH n ((l, q) :: h)) (hT : mT (dI dd) sp n h A) (hj : jmP A (n + h.length) l q (if A 72 9 = 0 then ((nmF (dI dd) sp n h l q).toInt64 / (100 * (dnF sp n h l q).toInt64)).toInt32 else nI 0) N) : mT (dI dd) sp n ((l, q) :: h) N := by
  obtain ⟨h1, h2, h3, h4, h5⟩ := hh
  have h2 : l < q := h2
  have h3 : q < n + h.length := h3
  have h4 : parF n h l = 0 := h4
  have h5 : parF n h q = 0 := h5
  obtain ⟨t0, t1, t2, t3, t4, t5, t6⟩ := hT
  obtain ⟨⟨j1, j2, j3, j4⟩, j5, j6, j7, j8, j9⟩ := hj
  have hlen : n + ((l, q) :: h).length = n + h.length + 1 := rfl
  have sl := hist_small hn (show h.length < n by omega) h1 (a := l) (by omega)
  have sq := hist_small hn (show h.length < n by omega) h1 (a := q) (by omega)
  have n72 : N 72 = A 72 := j9 72 (by decide) (by decide) (by decide) (by decide) (by decide) (by decide)
  have dI_s : ∀ a b, dI dd a b = dI dd b a := fun a b => congrArg nI (hs a b)
  refine ⟨by rw [n72]; exact t0, by rw [n72]; exact t1, fun a ha => ⟨?_, ?_⟩, fun a h0 ha => ?_, fun c a ha => ?_, fun c a b ha hb hab p1 p2 => ?_, fun v w hv hw hne => by rw [j9 87 (by decide) (by decide) (by decide) (by decide) (by decide) (by decide)]; exact t6 v w hv hw hne⟩
  · by_cases e : a = n + h.length
    · subst e
      rw [j4, (t2 l (by omega)).1, (t2 q h3).1, or_nI sl.2.2 sq.2.2]; show _ = nI (if _ then _ else _); rw [if_pos rfl]
    · rw [(j5 a e).2.2.2, (t2 a (by omega)).1]; show _ = nI (if _ then _ else _); rw [if_neg e]
  · rw [j6]
    unfold parI
    by_cases e : a = n + h.length
    · subst e
      rw [if_pos rfl]
      have : parF n ((l, q) :: h) (n + h.length) = 0 := by
        show (if _ then _ else _) = _
        rw [if_neg (by show ¬ (_ = l ∨ _ = q); omega)]
        exact (hist_new h1 _ (Nat.le_refl _))
      rw [if_pos this]
    · rw [if_neg e]
      by_cases c : a = l ∨ a = q
      · rw [if_pos c]
        have : parF n ((l, q) :: h) a = n + h.length := if_pos c
        rw [this, if_neg (by omega)]
      · rw [if_neg c, (t2 a (by omega)).2]
        have : parF n ((l, q) :: h) a = parF n h a := if_neg c
        rw [this]; rfl
  · by_cases e : a = n + h.length
    · subst e
      have : kidF n ((l, q) :: h) (n + h.length) = (l, q) := if_pos rfl
      rw [this]
      exact ⟨j1, j2⟩
    · have : kidF n ((l, q) :: h) a = kidF n h a := if_neg e
      rw [this, (j5 a e).1, (j5 a e).2.1]
      exact t3 a h0 (by omega)
  · by_cases e : a = n + h.length
    · subst e
      have dp := dn_ps (sp := sp) hn (show h.length < n by omega) h1 (a := l) (b := q) (by omega) h3
      rw [j3, if_pos (t1.mpr c), div_long (nm_sm hn (by omega) hd l q) dp.1 dp.2]; show _ = (if _ then _ else _); rw [if_pos rfl]
    · rw [(j5 a e).2.2.1, t4 c a (by omega)]; show _ = (if _ then _ else _); rw [if_neg e]
  · have hbj : ∀ x, x < n + h.length → x ≠ l → x ≠ q → parF n h x = 0 → jvM A l q x = jnF (bwF (dI dd) sp n h) sp l q x := fun x hx hxl hxq ho => by
      unfold jvM jnF
      rw [if_neg c, t5 c x l hx (by omega) hxl ho h4, t5 c x q hx h3 hxq ho h5, t5 c l q (by omega) h3 (by omega) h4 h5, bwF_sym dI_s h x l, bwF_sym dI_s h x q]
    have pe : ∀ x, parF n ((l, q) :: h) x = 0 → x ≠ l ∧ x ≠ q ∧ parF n h x = 0 := fun x hx => by
      have hx' : (if x = l ∨ x = q then n + h.length else parF n h x) = 0 := hx
      by_cases c : x = l ∨ x = q
      · rw [if_pos c] at hx'; omega
      · rw [if_neg c] at hx'; exact ⟨fun z => c (Or.inl z), fun z => c (Or.inr z), hx'⟩
    have P1 := pe a p1
    have P2 := pe b p2
    by_cases e : a = n + h.length
    · have e2 : b < n + h.length := by omega
      have hbw : bwF (dI dd) sp n ((l, q) :: h) a b = jnF (bwF (dI dd) sp n h) sp l q b := if_pos e
      rw [hbw, e, (j7 b e2).2]
      exact hbj b e2 P2.1 P2.2.1 P2.2.2
    · have e1 : a < n + h.length := by omega
      by_cases e2 : b = n + h.length
      · have hbw : bwF (dI dd) sp n ((l, q) :: h) a b = jnF (bwF (dI dd) sp n h) sp l q a := (if_neg e).trans (if_pos e2)
        rw [hbw, e2, (j7 a e1).1]
        exact hbj a e1 P1.1 P1.2.1 P1.2.2
      · have hbw : bwF (dI dd) sp n ((l, q) :: h) a b = bwF (dI dd) sp n h a b := (if_neg e).trans (if_neg e2)
        rw [hbw, j8 a b e1 (by omega)]
        exact t5 c a b e1 (by omega) hab P1.2.2 P2.2.2
theorem s_mjoin {dd : Nat → Nat → Nat} {sp : Bool} {n l q : Nat} {h : Hist} (M : Mem) (hn5 : n ≤ 5) (hl' : h.length + 1 < n) (hs : ∀ a b, dd a b = dd b a) (hd : ∀ a b, dd a b ≤ 1000) (hh : okH n h) (hT : mT (dI dd) sp n h M) (hpk : pick (dI dd) sp n h = some (l, q)) : Spec mX7_join [.ref 72, .int (nI (n + h.length))] M (fun r N => r = none ∧ mT (dI dd) sp n ((l, q) :: h) N ∧ (∀ f, f ≠ 38 → f ≠ 39 → N 72 f = M 72 f) ∧ ∀ z, z ≠ 72 → z ≠ 78 → z ≠ 79 → z ≠ 80 → z ≠ 82 → z ≠ 85 → z ≠ 86 → N z = M z) := by
  refine Spec.of (by decide) (by simp [Value.category]) (Nat.le_of_ble_eq_true rfl) ?_
  refine blk 7 [(.iconst 0, 0, 0, (nI 0)), (.istore_n 2, 0, 0, 0), (.iconst 0, 0, 0, (nI 0)), (.istore_n 3, 0, 0, 0)] [] (by decide +kernel) rfl (pc' := 4) (ls' := [some (.ref 72), some (.int (nI ((n + h.length)))), some (.int (nI 0)), some (.int (nI 0)), none, none, none, none, none, none, none]) (st' := []) (M' := M) rfl ⟨trivial, trivial, trivial, trivial, trivial⟩ ?_
  refine G.sub (ls' := [some (.ref 72), some (.int (nI ((n + h.length)))), some (.int (psum (opnF n h) 0)), some (.int (nI 0)), none, none, none, none, none, none, none]) ?_ ⟨rfl, rfl, congrArg (fun z => some (Value.int z)) nI_0, rfl, trivial⟩
  refine l_ms1 hn5 (by omega) hh hs hd hT ?_ _ 0 rfl (by omega)
  refine l_ms2 hn5 (by omega) hh hs hd hT (fun N hbt => ?_) _ 0 M rfl (by omega) ⟨fun _ _ => rfl, fun _ _ _ => rfl⟩
  rw [show pkO (isO n h) (nrF (dI dd) sp n h) (n + h.length) (n + h.length) = some (l, q) from hpk]
  have hpo := pick_ok hpk
  have hpo1 : l < q := hpo.1
  have hpo2 : q < n + h.length := hpo.2.1
  have dp := dn_ps (sp := sp) hn5 (show h.length < n by omega) hh (a := l) (b := q) (by omega) hpo2
  refine G.sub (ls' := [some (.ref 72), some (.int (nI (n + h.length))), none, some (.int (nI l)), some (.int (nI q)), some (.long (nmF (dI dd) sp n h l q).toInt64), none, some (.long (dnF sp n h l q).toInt64), none, none, none]) ?_ ⟨rfl, rfl, rfl, rfl, rfl, rfl, trivial⟩
  refine l_mj3 (by omega) (by omega) hpo2 (fun z => ?_) (fun N' hN => ?_)
  · have e1 : ((100 : Int64) * (dnF sp n h l q).toInt64).toInt = 100 * (dnF sp n h l q).toInt := by
      have d1 := dp.1
      unfold ps at d1
      rw [Int64.toInt_mul, Int32.toInt_toInt64, show (100 : Int64).toInt = 100 from by decide]
      exact Int.bmod_eq_of_le (by omega) (by omega)
    rw [z, show (0 : Int64).toInt = 0 from by decide] at e1
    have := dp.2
    omega
  · exact ⟨rfl, mT_join hn5 hl' hs hd ⟨hh, hpo⟩ (but2_mT hbt hT) hN, fun f h1 h2 => by rw [hN.2.2.2.2.2 72 (by decide) (by decide) (by decide) (by decide) (by decide) (by decide)]; exact hbt.2 f h1 h2, fun z z1 z2 z3 z4 z5 z6 z7 => by rw [hN.2.2.2.2.2 z z2 z3 z4 z5 z6 z7]; exact hbt.1 z z1⟩
