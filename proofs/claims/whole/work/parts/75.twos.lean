/-! the methods that write: type, end, score, gaps, settings, pair, distance -/
theorem stI_cg2 {M N : Mem} {n tl tl' : Nat} {ln : Nat → Nat} (h0 : ∀ f, f < 11 → f ≠ 5 → f ≠ 6 → N 0 f = M 0 f) (h72 : ∀ f, f < 11 → f ≠ 3 → N 72 f = M 72 f) (hz : ∀ z, z = 2 ∨ z = 3 ∨ (40 < z ∧ z < 51) ∨ z = 73 ∨ z = 74 ∨ z = 77 ∨ z = 97 → N z = M z) (ht : tyI N tl') (h : stI M n tl ln) : stI N n tl' ln := by
  obtain ⟨a1, a2, a3, ⟨w1, w2, w3, w4, w5, w6, w7, w8⟩, a5, a6, a7⟩ := h
  refine ⟨a1, by rw [h0 7 (by omega) (by omega) (by omega)]; exact a2, by rw [h72 0 (by omega) (by omega)]; exact a3, ?_, ht, ?_, ?_⟩
  · unfold sameW
    rw [hz 3 (by omega), hz 2 (by omega), hz 97 (by omega), hz 77 (by omega), hz 74 (by omega), h72 6 (by omega) (by omega), h72 7 (by omega) (by omega), h72 8 (by omega) (by omega), h0 8 (by omega) (by omega) (by omega)]
    refine ⟨fun i hi => ?_, w2, w3, w4, w5, w6, w7, w8⟩
    unfold wordOK mwordOK
    rw [hz (41 + i) (by omega), hz (41 + i + 5) (by omega), hz 73 (by omega), hz 74 (by omega)]
    exact w1 i hi
  · unfold scI
    rw [hz 3 (by omega)]
    exact a6
  · unfold flI
    rw [h72 8 (by omega) (by omega), h72 9 (by omega) (by omega), h72 10 (by omega) (by omega), h0 8 (by omega) (by omega) (by omega), h0 9 (by omega) (by omega) (by omega), h0 10 (by omega) (by omega) (by omega)]
    exact a7
theorem num_cases (c : Int32) : numF c = -1 ∨ ∃ a, a < 4 ∧ numF c = nI a := by
  unfold numF
  split
  · exact Or.inr ⟨0, by omega, rfl⟩
  · split
    · exact Or.inr ⟨1, by omega, rfl⟩
    · split
      · exact Or.inr ⟨2, by omega, rfl⟩
      · split
        · exact Or.inr ⟨3, by omega, rfl⟩
        · exact Or.inl rfl
theorem num_neg {c : Int32} : numF c < 0 ↔ numF c = -1 := by
  rcases num_cases c with h | ⟨a, ha, h⟩
  · rw [h]; exact ⟨fun _ => rfl, fun _ => by decide⟩
  · rw [h]; exact (by decide +kernel : ∀ a, a < 4 → (nI a < 0 ↔ nI a = -1)) a ha
theorem tw_type {M : Mem} (c : Int32) (h : Inv M) : Two mX6_type mX7_type [.ref 0, .int c] [.ref 72, .int c] M := by
  have hI := h
  obtain ⟨n, tl, B, ln, s, r⟩ := h
  obtain ⟨t1, t2, t3, t4⟩ := s.2.2.2.2.1
  refine ⟨_, s_type M c t2 t1, fun x N hN => ?_⟩
  unfold typeP at hN
  by_cases d : numF c = -1 ∨ 12 ≤ tl
  · rw [if_pos d] at hN
    obtain ⟨e1, e2⟩ := hN
    subst e2
    refine ⟨0, _, e1, s_mtype N c t3 t1, fun r' N' h' => ?_⟩
    unfold mtypeP at h'
    rw [if_pos (d.imp num_neg.mpr (fun z => by omega))] at h'
    exact ⟨h'.1, by rw [h'.2]; exact hI⟩
  · rw [if_neg d] at hN
    obtain ⟨e1, e2⟩ := hN
    have hlt : tl < 12 := Nat.lt_of_not_le (fun z => d (Or.inr z))
    have hN3 : N 72 3 = nI tl := by rw [e2, stm_ne (by decide), stm_ne (by decide)]; exact t3
    refine ⟨1, _, e1, s_mtype N c hN3 t1, fun r' N' h' => ?_⟩
    unfold mtypeP at h'
    rw [if_neg (fun z => d (z.imp num_neg.mp (fun z => by omega)))] at h'
    refine ⟨h'.1, n, tl + 1, B, ln, ?_, ?_⟩
    · obtain ⟨a, ha, ea⟩ := (num_cases c).resolve_left (fun z => d (Or.inl z))
      rw [h'.2, e2]
      refine stI_cg2 (M := M) (fun f h1 h2 h3 => ?_) (fun f h1 h2 => ?_) (fun z hz => ?_) ⟨by omega, ?_, ?_, fun k hk => ?_⟩ s
      · rw [stm_ne (by decide), stm_ne (by decide), stm_ne (by decide), stm_ne (by decide)]
      · rw [stm_off h2, stm_ne (by decide), stm_ne (by decide), stm_ne (by decide)]
      · rw [stm_ne (by omega), stm_ne (by omega), stm_ne (by omega), stm_ne (by omega)]
      · rw [stm_ne (by decide), stm_ne (by decide), stm_self]
      · rw [stm_self]
      · have g1 : stm (stm (stm (stm M 76 tl (numF c)) 71 1 (nI (tl + 1))) 75 tl (numF c)) 72 3 (nI (tl + 1)) 76 = stm M 76 tl (numF c) 76 := by rw [stm_ne (by decide), stm_ne (by decide), stm_ne (by decide)]
        have g2 : stm (stm (stm (stm M 76 tl (numF c)) 71 1 (nI (tl + 1))) 75 tl (numF c)) 72 3 (nI (tl + 1)) 75 = stm (stm (stm M 76 tl (numF c)) 71 1 (nI (tl + 1))) 75 tl (numF c) 75 := by rw [stm_ne (by decide)]
        rw [g1, g2]
        by_cases e : k = tl
        · subst e; rw [stm_self, stm_self]; exact ⟨rfl, a, ha, ea⟩
        · rw [stm_off e, stm_off e, stm_ne (by decide), stm_ne (by decide)]; exact t4 k (by omega)
    · have hBB : B = 51 ∨ B = 61 := by rcases r.1 with z | z; exact Or.inl z.1; exact Or.inr z.1
      have hn5 := s.1
      rw [h'.2, e2]
      refine reI_cg (M := M) s.1 (fun f h1 => ?_) (fun f h1 => ?_) (fun z hz => ?_) (fun a ha => ?_) r
      · rw [stm_ne (by decide), stm_ne (by decide), stm_ne (by decide), stm_ne (by decide)]
      · rw [stm_off (by omega), stm_ne (by decide), stm_ne (by decide), stm_ne (by decide)]
      · rw [stm_ne (by omega), stm_ne (by omega), stm_ne (by omega), stm_ne (by omega)]
      · rw [stm_ne (by omega), stm_ne (by omega), stm_ne (by omega), stm_ne (by omega), stm_ne (by omega), stm_ne (by omega), stm_ne (by omega), stm_ne (by omega)]
        exact ⟨rfl, rfl⟩
theorem tw_end {M : Mem} (h : Inv M) : Two mX6_end mX7_end [.ref 0] [.ref 72] M := by
  have hI := h
  obtain ⟨n, tl, B, ln, s, r1, r2, r3, r4⟩ := h
  obtain ⟨t1, t2, t3, t4⟩ := s.2.2.2.2.1
  have hn5 := s.1
  by_cases d : tl = 0 ∨ n = 5
  · exact two_ret (s_end0 M t2 s.2.1 t1 hn5 d) (s_mend0 M t3 s.2.2.1 t1 hn5 d) hI
  · refine ⟨_, s_end1 M t2 s.2.1 (by omega) t1 (by omega), fun x N hN => ?_⟩
    obtain ⟨e1, e2, e3, e4, e5, e6, e7, e8⟩ := hN
    have eN : N 72 = M 72 := e8 72 (by omega) (by omega) (by omega) (by omega)
    refine ⟨nI n, _, e1, s_mend1 N (n := n) (w := tl) (by rw [eN]; exact t3) (by rw [eN]; exact s.2.2.1) (by omega) t1 (by omega), fun r' N' h' => ?_⟩
    obtain ⟨f1, f2, f3, f4, f5, f6, f7, f8, f9, f10, f11⟩ := h'
    obtain ⟨a1, a2, a3, ⟨w1, w2, w3, w4, w5, w6, w7, w8⟩, a5, a6, a7⟩ := s
    have k0 : ∀ f, f ≠ 7 → f ≠ 11 → N' 0 f = M 0 f := fun f h1 h2 => by rw [f11 0 (by omega) (by omega) (by omega)]; exact e7 f h1 h2
    have k72 : ∀ f, f ≠ 0 → f ≠ 3 → f ≠ 11 → f ≠ 23 → N' 72 f = M 72 f := fun f h1 h2 h3 h4 => by rw [f10 f h1 h2 h3 h4, eN]
    have kz : ∀ z, z ≠ 0 → z ≠ 71 → z ≠ 41 + n → z ≠ 41 + n + 5 → z ≠ 72 → z ≠ 73 → z ≠ 74 → N' z = M z := fun z h1 h2 h3 h4 h5 h6 h7 => by rw [f11 z h5 h6 h7]; exact e8 z h1 h2 h3 h4
    refine ⟨f1, n + 1, 0, B, fun i => if i = n then tl else ln i, ⟨by omega, by rw [f11 0 (by omega) (by omega) (by omega)]; exact e5, f7, ?_, ?_, ?_, ?_⟩, ?_, ?_, ?_, ?_⟩
    · refine ⟨fun i hi => ?_, ?_, ?_, ?_, ?_, ?_, ?_, ?_⟩
      · show wordOK N' i (if i = n then tl else ln i) ∧ mwordOK N' i (if i = n then tl else ln i) ∧ ∀ k, k < (if i = n then tl else ln i) → N' (41 + i + 5) k = N' 74 (12 * i + k)
        by_cases e : i = n
        · subst e
          rw [if_pos rfl]
          have c46 : ∀ k, k < tl → N' (41 + i + 5) k = M 76 k := fun k hk => by rw [f11 _ (by omega) (by omega) (by omega)]; exact e3 k hk
          have c74 : ∀ k, k < tl → N' 74 (12 * i + k) = M 76 k := fun k hk => by rw [f4 k hk, e8 75 (by omega) (by omega) (by omega) (by omega)]; exact (t4 k hk).1.symm
          refine ⟨⟨by rw [f11 _ (by omega) (by omega) (by omega)]; exact e2, by omega, t1, fun k hk => by rw [c46 k hk]; exact (t4 k hk).2⟩, ⟨f2, by omega, t1, fun k hk => by rw [c74 k hk]; exact (t4 k hk).2⟩, fun k hk => by rw [c46 k hk, c74 k hk]⟩
        · rw [if_neg e]
          have q := w1 i (by omega)
          have l12 := q.1.2.2.1
          have c74 : ∀ k, k < ln i → N' 74 (12 * i + k) = M 74 (12 * i + k) := fun k hk => by rw [f5 _ (by omega), e8 74 (by omega) (by omega) (by omega) (by omega)]
          have c73 : N' 73 i = M 73 i := by rw [f3 i e, e8 73 (by omega) (by omega) (by omega) (by omega)]
          have c41 : N' (41 + i) = M (41 + i) := kz _ (by omega) (by omega) (by omega) (by omega) (by omega) (by omega) (by omega)
          have c46 : N' (41 + i + 5) = M (41 + i + 5) := kz _ (by omega) (by omega) (by omega) (by omega) (by omega) (by omega) (by omega)
          unfold wordOK mwordOK
          rw [c41, c46, c73]
          exact ⟨q.1, ⟨q.2.1.1, q.2.1.2.1, q.2.1.2.2.1, fun k hk => by rw [c74 k hk]; exact q.2.1.2.2.2 k hk⟩, fun k hk => by rw [c74 k hk]; exact q.2.2 k hk⟩
      · rw [kz 77 (by omega) (by omega) (by omega) (by omega) (by omega) (by omega) (by omega), kz 3 (by omega) (by omega) (by omega) (by omega) (by omega) (by omega) (by omega)]; exact w2
      · rw [k72 6 (by omega) (by omega) (by omega) (by omega), kz 2 (by omega) (by omega) (by omega) (by omega) (by omega) (by omega) (by omega)]; exact w3
      · rw [k72 7 (by omega) (by omega) (by omega) (by omega), kz 2 (by omega) (by omega) (by omega) (by omega) (by omega) (by omega) (by omega)]; exact w4
      · rw [kz 2 (by omega) (by omega) (by omega) (by omega) (by omega) (by omega) (by omega)]; exact w5
      · rw [kz 2 (by omega) (by omega) (by omega) (by omega) (by omega) (by omega) (by omega)]; exact w6
      · rw [kz 97 (by omega) (by omega) (by omega) (by omega) (by omega) (by omega) (by omega)]; exact w7
      · rw [k72 8 (by omega) (by omega) (by omega) (by omega), k0 8 (by omega) (by omega)]; exact w8
    · exact ⟨by omega, by rw [f11 71 (by omega) (by omega) (by omega)]; exact e4, f6, fun k hk => absurd hk (by omega)⟩
    · unfold scI
      rw [kz 3 (by omega) (by omega) (by omega) (by omega) (by omega) (by omega) (by omega)]
      exact a6
    · unfold flI
      rw [k72 8 (by omega) (by omega) (by omega) (by omega), k72 9 (by omega) (by omega) (by omega) (by omega), k72 10 (by omega) (by omega) (by omega) (by omega), k0 8 (by omega) (by omega), k0 9 (by omega) (by omega), k0 10 (by omega) (by omega)]
      exact a7
    · unfold shAt
      rw [k0 5 (by omega) (by omega), k0 6 (by omega) (by omega)]
      exact r1
    · rw [kz 24 (by omega) (by omega) (by omega) (by omega) (by omega) (by omega) (by omega)]; exact r2
    · rw [f8, f11 0 (by omega) (by omega) (by omega)]; exact e6.symm
    · exact Or.inl ⟨by rw [f11 0 (by omega) (by omega) (by omega), e6]; exact nI_0, by rw [f9]; exact nI_0⟩
theorem fgt_ne {M : Mem} {z : Nat} (h : z ≠ 72) : fgt M z = M z := by unfold fgt; rw [stm_ne h, stm_ne h]
theorem fgt_off {M : Mem} {f : Nat} (h : f ≠ 11) (h2 : f ≠ 23) : fgt M 72 f = M 72 f := by unfold fgt; rw [stm_off h2, stm_off h]
theorem fgt_11 {M : Mem} : fgt M 72 11 = nI 0 := by unfold fgt; rw [stm_off (by decide), stm_self]
theorem fgt_23 {M : Mem} : fgt M 72 23 = nI 0 := by unfold fgt; exact stm_self
/-- what is left when the layout is gone -/
theorem reI_gone {M N : Mem} {B n : Nat} {ln : Nat → Nat} (h5 : N 0 5 = M 0 5) (h6 : N 0 6 = M 0 6) (h24 : N 24 = M 24) (h11 : N 0 11 = nI 0) (m11 : N 72 11 = nI 0) (m23 : N 72 23 = nI 0) (h : reI M B n ln) : reI N B n ln := by
  refine ⟨?_, ?_, ?_, Or.inl ⟨?_, ?_⟩⟩
  · unfold shAt
    rw [h5, h6]
    exact h.1
  · rw [h24]; exact h.2.1
  · rw [h11, m11]
  · rw [h11]; exact nI_0
  · rw [m23]; exact nI_0
theorem v20 {v : Int32} (h1 : ¬ v < -20) (h2 : v ≤ nI 20) : sm 20 v := by
  rw [Int32.lt_iff_toInt_lt] at h1
  rw [Int32.le_iff_toInt_le] at h2
  have e1 : (-20 : Int32).toInt = -20 := by decide
  have e2 : (nI 20).toInt = 20 := by decide +kernel
  unfold sm
  omega
theorem p20 {v : Int32} (h1 : ¬ v < 0) (h2 : v ≤ nI 20) : ps 20 v := by
  rw [Int32.lt_iff_toInt_lt] at h1
  rw [Int32.le_iff_toInt_le] at h2
  have e1 : (0 : Int32).toInt = 0 := by decide
  have e2 : (nI 20).toInt = 20 := by decide +kernel
  unfold ps
  omega
theorem c43 {x : Int32} : (¬ nI 4 ≤ x ↔ ¬ nI 3 < x) ∧ (x < nI 4 ↔ ¬ nI 3 < x) := by
  rw [Int32.lt_iff_toInt_lt, Int32.lt_iff_toInt_lt, Int32.le_iff_toInt_le]
  have e1 : (nI 4).toInt = 4 := by decide +kernel
  have e2 : (nI 3).toInt = 3 := by decide +kernel
  rw [e1, e2]
  omega
theorem tw_score {M : Mem} (x y v : Int32) (h : Inv M) : Two mX6_score mX7_score [.ref 0, .int x, .int y, .int v] [.ref 72, .int x, .int y, .int v] M := by
  have hI := h
  obtain ⟨n, tl, B, ln, s, r⟩ := h
  by_cases d : ¬ x < 0 ∧ ¬ nI 3 < x ∧ ¬ y < 0 ∧ ¬ nI 3 < y ∧ ¬ v < -20 ∧ v ≤ nI 20
  · obtain ⟨a, ha, ea⟩ := nat_of (n := 4) (by omega) d.1 (c43.1.mpr d.2.1)
    obtain ⟨b, hb, eb⟩ := nat_of (n := 4) (by omega) d.2.2.1 (c43.1.mpr d.2.2.2.1)
    have hv1 := d.2.2.2.2.1
    have hv2 := d.2.2.2.2.2
    subst ea eb
    refine ⟨_, s_score1 M ha hb hv1 hv2, fun w N hN => ⟨1, _, hN.1, s_mscore1 N ha hb hv1 hv2, fun r' N' h' => ⟨h'.1, n, tl, B, ln, ?_, ?_⟩⟩⟩
    · have q0 : ∀ f, f ≠ 11 → N' 0 f = M 0 f := fun f hf => by rw [h'.2, hN.2, fgt_ne (by decide), stm_ne (by decide), stm_ne (by decide), stm_off hf, stm_ne (by decide), stm_ne (by decide)]
      have q72 : ∀ f, f ≠ 11 → f ≠ 23 → N' 72 f = M 72 f := fun f h1 h2 => by rw [h'.2, hN.2, fgt_off h1 h2, stm_ne (by decide), stm_ne (by decide), stm_ne (by decide), stm_ne (by decide), stm_ne (by decide)]
      have qz : ∀ z, z ≠ 0 → z ≠ 3 → z ≠ 72 → z ≠ 77 → N' z = M z := fun z h1 h2 h3 h4 => by rw [h'.2, hN.2, fgt_ne h3, stm_ne h4, stm_ne h4, stm_ne h1, stm_ne h2, stm_ne h2]
      have q3 : ∀ k, N' 3 k = if k = b * 4 + a ∨ k = a * 4 + b then v else M 3 k := fun k => by
        rw [h'.2, hN.2, fgt_ne (by decide), stm_ne (by decide), stm_ne (by decide), stm_ne (by decide)]
        by_cases e1 : k = b * 4 + a
        · subst e1; rw [stm_self, if_pos (Or.inl rfl)]
        · rw [stm_off e1]
          by_cases e2 : k = a * 4 + b
          · subst e2; rw [stm_self, if_pos (Or.inr rfl)]
          · rw [stm_off e2, if_neg (by omega)]
      have q77 : ∀ k, N' 77 k = if k = b * 4 + a ∨ k = a * 4 + b then v else M 77 k := fun k => by
        rw [h'.2, hN.2, fgt_ne (by decide)]
        by_cases e1 : k = 4 * b + a
        · subst e1; rw [stm_self, if_pos (Or.inl (by omega))]
        · rw [stm_off e1]
          by_cases e2 : k = 4 * a + b
          · subst e2; rw [stm_self, if_pos (Or.inr (by omega))]
          · rw [stm_off e2, if_neg (by omega), stm_ne (by decide), stm_ne (by decide), stm_ne (by decide)]
      obtain ⟨a1, a2, a3, ⟨w1, w2, w3, w4, w5, w6, w7, w8⟩, a5, a6, a7⟩ := s
      refine ⟨a1, by rw [q0 7 (by decide)]; exact a2, by rw [q72 0 (by decide) (by decide)]; exact a3, ⟨fun i hi => ?_, fun k hk => ?_, ?_, ?_, ?_, ?_, ?_, ?_⟩, ?_, fun i j hi hj => ?_, ?_⟩
      · unfold wordOK mwordOK
        rw [qz (41 + i) (by omega) (by omega) (by omega) (by omega), qz (41 + i + 5) (by omega) (by omega) (by omega) (by omega), qz 73 (by decide) (by decide) (by decide) (by decide), qz 74 (by decide) (by decide) (by decide) (by decide)]
        exact w1 i hi
      · rw [q3, q77]
        by_cases e : k = b * 4 + a ∨ k = a * 4 + b
        · rw [if_pos e, if_pos e]; exact ⟨rfl, v20 hv1 hv2⟩
        · rw [if_neg e, if_neg e]; exact w2 k hk
      · rw [q72 6 (by decide) (by decide), qz 2 (by decide) (by decide) (by decide) (by decide)]; exact w3
      · rw [q72 7 (by decide) (by decide), qz 2 (by decide) (by decide) (by decide) (by decide)]; exact w4
      · rw [qz 2 (by decide) (by decide) (by decide) (by decide)]; exact w5
      · rw [qz 2 (by decide) (by decide) (by decide) (by decide)]; exact w6
      · rw [qz 97 (by decide) (by decide) (by decide) (by decide)]; exact w7
      · rw [q72 8 (by decide) (by decide), q0 8 (by decide)]; exact w8
      · unfold tyI
        rw [qz 71 (by decide) (by decide) (by decide) (by decide), qz 75 (by decide) (by decide) (by decide) (by decide), qz 76 (by decide) (by decide) (by decide) (by decide), q72 3 (by decide) (by decide)]
        exact a5
      · rw [q3, q3]
        by_cases e : i * 4 + j = b * 4 + a ∨ i * 4 + j = a * 4 + b
        · rw [if_pos e, if_pos (by omega)]
        · rw [if_neg e, if_neg (by omega)]; exact a6 i j hi hj
      · unfold flI
        rw [q72 8 (by decide) (by decide), q72 9 (by decide) (by decide), q72 10 (by decide) (by decide), q0 8 (by decide), q0 9 (by decide), q0 10 (by decide)]
        exact a7
    · refine reI_gone (M := M) ?_ ?_ ?_ ?_ ?_ ?_ r
      · rw [h'.2, hN.2, fgt_ne (by decide), stm_ne (by decide), stm_ne (by decide), stm_off (by decide), stm_ne (by decide), stm_ne (by decide)]
      · rw [h'.2, hN.2, fgt_ne (by decide), stm_ne (by decide), stm_ne (by decide), stm_off (by decide), stm_ne (by decide), stm_ne (by decide)]
      · rw [h'.2, hN.2, fgt_ne (by decide), stm_ne (by decide), stm_ne (by decide), stm_ne (by decide), stm_ne (by decide), stm_ne (by decide)]
      · rw [h'.2, hN.2, fgt_ne (by decide), stm_ne (by decide), stm_ne (by decide), stm_self]
      · rw [h'.2]; exact fgt_11
      · rw [h'.2]; exact fgt_23
  · exact two_ret (s_score0 M (fun z => d ⟨z.1, c43.1.mp z.2.1, z.2.2.1, c43.2.mp z.2.2.2.1, z.2.2.2.2⟩)) (s_mscore0 M d) hI
theorem tw_gaps {M : Mem} (a b : Int32) (h : Inv M) : Two mX6_gaps mX7_gaps [.ref 0, .int a, .int b] [.ref 72, .int a, .int b] M := by
  have hI := h
  obtain ⟨n, tl, B, ln, s, r⟩ := h
  refine ⟨_, s_gaps M a b, fun w N hN => ?_⟩
  unfold cgapsP at hN
  by_cases d : ¬ a < 0 ∧ ¬ nI 20 < a ∧ ¬ b < 0 ∧ b ≤ nI 20
  · rw [if_pos d] at hN
    refine ⟨1, _, hN.1, s_mgaps N a b, fun r' N' h' => ?_⟩
    unfold gapsP at h'
    rw [if_pos d] at h'
    refine ⟨h'.1, n, tl, B, ln, ?_, ?_⟩
    · have q0 : ∀ f, f ≠ 11 → N' 0 f = M 0 f := fun f hf => by rw [h'.2, hN.2, fgt_ne (by decide), stm_ne (by decide), stm_ne (by decide), stm_off hf, stm_ne (by decide), stm_ne (by decide)]
      have q72 : ∀ f, f ≠ 11 → f ≠ 23 → f ≠ 6 → f ≠ 7 → N' 72 f = M 72 f := fun f h1 h2 h3 h4 => by rw [h'.2, hN.2, fgt_off h1 h2, stm_off h4, stm_off h3, stm_ne (by decide), stm_ne (by decide), stm_ne (by decide)]
      have qz : ∀ z, z ≠ 0 → z ≠ 2 → z ≠ 72 → N' z = M z := fun z h1 h2 h3 => by rw [h'.2, hN.2, fgt_ne h3, stm_ne h3, stm_ne h3, stm_ne h1, stm_ne h2, stm_ne h2]
      have g1 : N' 2 1 = a := by rw [h'.2, hN.2, fgt_ne (by decide), stm_ne (by decide), stm_ne (by decide), stm_ne (by decide), stm_off (by decide), stm_self]
      have g2 : N' 2 2 = b := by rw [h'.2, hN.2, fgt_ne (by decide), stm_ne (by decide), stm_ne (by decide), stm_ne (by decide), stm_self]
      have g6 : N' 72 6 = a := by rw [h'.2, fgt_off (by decide) (by decide), stm_off (by decide), stm_self]
      have g7 : N' 72 7 = b := by rw [h'.2, fgt_off (by decide) (by decide), stm_self]
      obtain ⟨a1, a2, a3, ⟨w1, w2, w3, w4, w5, w6, w7, w8⟩, a5, a6, a7⟩ := s
      refine ⟨a1, by rw [q0 7 (by decide)]; exact a2, by rw [q72 0 (by decide) (by decide) (by decide) (by decide)]; exact a3, ⟨fun i hi => ?_, ?_, ?_, ?_, ?_, ?_, ?_, ?_⟩, ?_, ?_, ?_⟩
      · unfold wordOK mwordOK
        rw [qz (41 + i) (by omega) (by omega) (by omega), qz (41 + i + 5) (by omega) (by omega) (by omega), qz 73 (by decide) (by decide) (by decide), qz 74 (by decide) (by decide) (by decide)]
        exact w1 i hi
      · rw [qz 3 (by decide) (by decide) (by decide), qz 77 (by decide) (by decide) (by decide)]; exact w2
      · rw [g1, g6]
      · rw [g2, g7]
      · rw [g1]; exact p20 d.1 (Int32.not_lt.mp d.2.1)
      · rw [g2]; exact p20 d.2.2.1 d.2.2.2
      · rw [qz 97 (by decide) (by decide) (by decide)]; exact w7
      · rw [q72 8 (by decide) (by decide) (by decide) (by decide), q0 8 (by decide)]; exact w8
      · unfold tyI
        rw [qz 71 (by decide) (by decide) (by decide), qz 75 (by decide) (by decide) (by decide), qz 76 (by decide) (by decide) (by decide), q72 3 (by decide) (by decide) (by decide) (by decide)]
        exact a5
      · unfold scI
        rw [qz 3 (by decide) (by decide) (by decide)]
        exact a6
      · unfold flI
        rw [q72 8 (by decide) (by decide) (by decide) (by decide), q72 9 (by decide) (by decide) (by decide) (by decide), q72 10 (by decide) (by decide) (by decide) (by decide), q0 8 (by decide), q0 9 (by decide), q0 10 (by decide)]
        exact a7
    · refine reI_gone (M := M) ?_ ?_ ?_ ?_ ?_ ?_ r
      · rw [h'.2, hN.2, fgt_ne (by decide), stm_ne (by decide), stm_ne (by decide), stm_off (by decide), stm_ne (by decide), stm_ne (by decide)]
      · rw [h'.2, hN.2, fgt_ne (by decide), stm_ne (by decide), stm_ne (by decide), stm_off (by decide), stm_ne (by decide), stm_ne (by decide)]
      · rw [h'.2, hN.2, fgt_ne (by decide), stm_ne (by decide), stm_ne (by decide), stm_ne (by decide), stm_ne (by decide), stm_ne (by decide)]
      · rw [h'.2, hN.2, fgt_ne (by decide), stm_ne (by decide), stm_ne (by decide), stm_self]
      · rw [h'.2]; exact fgt_11
      · rw [h'.2]; exact fgt_23
  · rw [if_neg d] at hN
    refine ⟨0, _, hN.1, s_mgaps N a b, fun r' N' h' => ?_⟩
    unfold gapsP at h'
    rw [if_neg d] at h'
    exact ⟨h'.1, by rw [h'.2, hN.2]; exact hI⟩
/-- two methods without an answer -/
def TwoN (q q' : MI) (av av' : List Value) (M : Mem) : Prop := ∃ P, Spec q av M P ∧ ∀ r N, P r N → ∃ P', r = none ∧ Spec q' av' N P' ∧ ∀ r' N', P' r' N' → r' = none ∧ Inv N'
theorem tw_settings {M : Mem} {a b c : Int32} (ha : a = 0 ∨ a = 1) (hb : b = 0 ∨ b = 1) (hc : c = 0 ∨ c = 1) (h : Inv M) : TwoN mX6_settings mX7_settings [.ref 0, .int a, .int b, .int c] [.ref 72, .int a, .int b, .int c] M := by
  obtain ⟨n, tl, B, ln, s, r⟩ := h
  refine ⟨_, s_settings M ha hb hc, fun w N hN => ⟨_, hN.1, s_msettings N ha hb hc, fun r' N' h' => ⟨h'.1, n, tl, B, ln, ?_, ?_⟩⟩⟩
  · have q0 : ∀ f, f ≠ 11 → f ≠ 8 → f ≠ 9 → f ≠ 10 → N' 0 f = M 0 f := fun f h1 h2 h3 h4 => by rw [h'.2, hN.2, fgt_ne (by decide), stm_ne (by decide), stm_ne (by decide), stm_ne (by decide), stm_off h1, stm_off h4, stm_off h3, stm_off h2]
    have q72 : ∀ f, f ≠ 11 → f ≠ 23 → f ≠ 8 → f ≠ 9 → f ≠ 10 → N' 72 f = M 72 f := fun f h1 h2 h3 h4 h5 => by rw [h'.2, hN.2, fgt_off h1 h2, stm_off h5, stm_off h4, stm_off h3, stm_ne (by decide), stm_ne (by decide), stm_ne (by decide), stm_ne (by decide)]
    have qz : ∀ z, z ≠ 0 → z ≠ 72 → N' z = M z := fun z h1 h3 => by rw [h'.2, hN.2, fgt_ne h3, stm_ne h3, stm_ne h3, stm_ne h3, stm_ne h1, stm_ne h1, stm_ne h1, stm_ne h1]
    have c8 : N' 0 8 = a := by rw [h'.2, hN.2, fgt_ne (by decide), stm_ne (by decide), stm_ne (by decide), stm_ne (by decide), stm_off (by decide), stm_off (by decide), stm_off (by decide), stm_self]
    have c9 : N' 0 9 = b := by rw [h'.2, hN.2, fgt_ne (by decide), stm_ne (by decide), stm_ne (by decide), stm_ne (by decide), stm_off (by decide), stm_off (by decide), stm_self]
    have c10 : N' 0 10 = c := by rw [h'.2, hN.2, fgt_ne (by decide), stm_ne (by decide), stm_ne (by decide), stm_ne (by decide), stm_off (by decide), stm_self]
    have m8 : N' 72 8 = a := by rw [h'.2, fgt_off (by decide) (by decide), stm_off (by decide), stm_off (by decide), stm_self]
    have m9 : N' 72 9 = b := by rw [h'.2, fgt_off (by decide) (by decide), stm_off (by decide), stm_self]
    have m10 : N' 72 10 = c := by rw [h'.2, fgt_off (by decide) (by decide), stm_self]
    obtain ⟨a1, a2, a3, ⟨w1, w2, w3, w4, w5, w6, w7, w8⟩, a5, a6, a7⟩ := s
    refine ⟨a1, by rw [q0 7 (by decide) (by decide) (by decide) (by decide)]; exact a2, by rw [q72 0 (by decide) (by decide) (by decide) (by decide) (by decide)]; exact a3, ⟨fun i hi => ?_, ?_, ?_, ?_, ?_, ?_, ?_, ?_⟩, ?_, ?_, ?_⟩
    · unfold wordOK mwordOK
      rw [qz (41 + i) (by omega) (by omega), qz (41 + i + 5) (by omega) (by omega), qz 73 (by decide) (by decide), qz 74 (by decide) (by decide)]
      exact w1 i hi
    · rw [qz 3 (by decide) (by decide), qz 77 (by decide) (by decide)]; exact w2
    · rw [q72 6 (by decide) (by decide) (by decide) (by decide) (by decide), qz 2 (by decide) (by decide)]; exact w3
    · rw [q72 7 (by decide) (by decide) (by decide) (by decide) (by decide), qz 2 (by decide) (by decide)]; exact w4
    · rw [qz 2 (by decide) (by decide)]; exact w5
    · rw [qz 2 (by decide) (by decide)]; exact w6
    · rw [qz 97 (by decide) (by decide)]; exact w7
    · rw [m8, c8]
    · unfold tyI
      rw [qz 71 (by decide) (by decide), qz 75 (by decide) (by decide), qz 76 (by decide) (by decide), q72 3 (by decide) (by decide) (by decide) (by decide) (by decide)]
      exact a5
    · unfold scI
      rw [qz 3 (by decide) (by decide)]
      exact a6
    · unfold flI
      rw [m8, m9, m10, c8, c9, c10]
      exact ⟨rfl, rfl, rfl, by rw [nI_0, n1_lit]; exact hb⟩
  · refine reI_gone (M := M) ?_ ?_ ?_ ?_ ?_ ?_ r
    · rw [h'.2, hN.2, fgt_ne (by decide), stm_ne (by decide), stm_ne (by decide), stm_ne (by decide), stm_off (by decide), stm_off (by decide), stm_off (by decide), stm_off (by decide)]
    · rw [h'.2, hN.2, fgt_ne (by decide), stm_ne (by decide), stm_ne (by decide), stm_ne (by decide), stm_off (by decide), stm_off (by decide), stm_off (by decide), stm_off (by decide)]
    · rw [h'.2, hN.2, fgt_ne (by decide), stm_ne (by decide), stm_ne (by decide), stm_ne (by decide), stm_ne (by decide), stm_ne (by decide), stm_ne (by decide), stm_ne (by decide)]
    · rw [h'.2, hN.2, fgt_ne (by decide), stm_ne (by decide), stm_ne (by decide), stm_ne (by decide), stm_self]
    · rw [h'.2]; exact fgt_11
    · rw [h'.2]; exact fgt_23
