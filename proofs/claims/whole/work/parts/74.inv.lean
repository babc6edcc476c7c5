/-! THE INVARIANT: class and reference side by side in one memory -/
def tyI (M : Mem) (tl : Nat) : Prop := tl ≤ 12 ∧ M 71 1 = nI tl ∧ M 72 3 = nI tl ∧ ∀ k, k < tl → M 76 k = M 75 k ∧ ∃ a, a < 4 ∧ M 76 k = nI a
def scI (M : Mem) : Prop := ∀ a b, a < 4 → b < 4 → M 3 (a * 4 + b) = M 3 (b * 4 + a)
def flI (M : Mem) : Prop := M 72 8 = M 0 8 ∧ M 72 9 = M 0 9 ∧ M 72 10 = M 0 10 ∧ (M 0 9 = nI 0 ∨ M 0 9 = nI 1)
/-- words, costs, settings -/
def stI (M : Mem) (n tl : Nat) (ln : Nat → Nat) : Prop := n ≤ 5 ∧ M 0 7 = nI n ∧ M 72 0 = nI n ∧ sameW M M n ln ∧ tyI M tl ∧ scI M ∧ flI M
/-- the layout -/
def laI (M : Mem) (B n : Nat) (ln : Nat → Nat) : Prop := (M 0 11 = 0 ∧ M 72 23 = 0) ∨ (¬ M 0 11 = 0 ∧ 1 ≤ n ∧ ∃ W ws, layC M B n W ln ws ∧ layR M M B n W ∧ (n = 1 → W = ln 0))
def reI (M : Mem) (B n : Nat) (ln : Nat → Nat) : Prop := shAt M B ∧ (∀ i, i < 5 → ps 11 (M 24 i)) ∧ M 72 11 = M 0 11 ∧ laI M B n ln
def Inv (M : Mem) : Prop := ∃ (n tl B : Nat) (ln : Nat → Nat), stI M n tl ln ∧ reI M B n ln
theorem stI_cg {M N : Mem} {n tl : Nat} {ln : Nat → Nat} (h0 : ∀ f, f < 11 → f ≠ 5 → f ≠ 6 → N 0 f = M 0 f) (h72 : ∀ f, f < 11 → N 72 f = M 72 f) (hz : ∀ z, z = 2 ∨ z = 3 ∨ (40 < z ∧ z < 51) ∨ z = 71 ∨ (72 < z ∧ z < 78) ∨ z = 97 → N z = M z) (h : stI M n tl ln) : stI N n tl ln := by
  obtain ⟨a1, a2, a3, ⟨w1, w2, w3, w4, w5, w6, w7, w8⟩, a5, a6, a7⟩ := h
  refine ⟨a1, by rw [h0 7 (by omega) (by omega) (by omega)]; exact a2, by rw [h72 0 (by omega)]; exact a3, ?_, ?_, ?_, ?_⟩
  · unfold sameW
    rw [hz 3 (by omega), hz 2 (by omega), hz 97 (by omega), hz 77 (by omega), hz 74 (by omega), h72 6 (by omega), h72 7 (by omega), h72 8 (by omega), h0 8 (by omega) (by omega) (by omega)]
    refine ⟨fun i hi => ?_, w2, w3, w4, w5, w6, w7, w8⟩
    unfold wordOK mwordOK
    rw [hz (41 + i) (by omega), hz (41 + i + 5) (by omega), hz 73 (by omega), hz 74 (by omega)]
    exact w1 i hi
  · unfold tyI
    rw [hz 71 (by omega), hz 75 (by omega), hz 76 (by omega), h72 3 (by omega)]
    exact a5
  · unfold scI
    rw [hz 3 (by omega)]
    exact a6
  · unfold flI
    rw [h72 8 (by omega), h72 9 (by omega), h72 10 (by omega), h0 8 (by omega) (by omega) (by omega), h0 9 (by omega) (by omega) (by omega), h0 10 (by omega) (by omega) (by omega)]
    exact a7
theorem st_cls {M : Mem} {n tl : Nat} {ln : Nat → Nat} (h : stI M n tl ln) : clsOK M n ln := by
  obtain ⟨a1, a2, a3, ⟨w1, w2, w3, w4, w5, w6, w7, w8⟩, a5, a6, a7⟩ := h
  exact ⟨a2, fun i hi => (w1 i hi).1, w7, fun k hk => (w2 k hk).2, w5, w6⟩
theorem reI_cg {M N : Mem} {B n : Nat} {ln : Nat → Nat} (hn : n ≤ 5) (h0 : ∀ f, (f = 5 ∨ f = 6 ∨ f = 11) → N 0 f = M 0 f) (h72 : ∀ f, f = 11 ∨ f = 23 → N 72 f = M 72 f) (hz : ∀ z, (15 < z ∧ z < 25) ∨ (77 < z ∧ z < 82) ∨ z = 88 ∨ z = 89 → N z = M z) (hr : ∀ a, a < n → N (B + a) = M (B + a) ∧ N (B + a + 5) = M (B + a + 5)) (h : reI M B n ln) : reI N B n ln := by
  obtain ⟨b1, b2, b3, b4⟩ := h
  refine ⟨?_, ?_, ?_, ?_⟩
  · unfold shAt
    rw [h0 5 (by omega), h0 6 (by omega)]
    exact b1
  · rw [hz 24 (by omega)]; exact b2
  · rw [h72 11 (by omega), h0 11 (by omega)]; exact b3
  · unfold laI
    rw [h0 11 (by omega), h72 23 (by omega)]
    rcases b4 with c | ⟨c1, c2, W, ws, y, r, c3⟩
    · exact Or.inl c
    · refine Or.inr ⟨c1, c2, W, ws, ?_, ?_, c3⟩
      · obtain ⟨y1, y2, y3, y4, y5, y6⟩ := y
        unfold layC
        rw [hz 24 (by omega), hz 16 (by omega), hz 20 (by omega)]
        exact ⟨rowsOK_congr hr y1, y2, y3, y4, y5, y6⟩
      · obtain ⟨r1, r2, r3, r4⟩ := r
        unfold layR
        rw [h72 23 (by omega), hz 89 (by omega), hz 78 (by omega), hz 79 (by omega), hz 81 (by omega), hz 88 (by omega), hz 17 (by omega), hz 18 (by omega), hz 19 (by omega), hz 24 (by omega)]
        exact ⟨r1, fun i c hi hc => by rw [(hr i hi).2]; exact r2 i c hi hc, r3, r4⟩
/-- a method of the class and the same one of the reference: the same answer, and the invariant after them -/
def Two (q q' : MI) (av av' : List Value) (M : Mem) : Prop := ∃ P, Spec q av M P ∧ ∀ r N, P r N → ∃ x P', r = some (.int x) ∧ Spec q' av' N P' ∧ ∀ r' N', P' r' N' → r' = some (.int x) ∧ Inv N'
theorem two_ret {q q' : MI} {av av' : List Value} {M : Mem} {x : Int32} (h1 : Spec q av M (Ret x M)) (h2 : Spec q' av' M (Ret x M)) (hI : Inv M) : Two q q' av av' M :=
  ⟨_, h1, fun r N h => ⟨x, Ret x M, h.1, by rw [h.2]; exact h2, fun r' N' h' => ⟨h'.1, by rw [h'.2]; exact hI⟩⟩⟩
theorem nat_of {i : Int32} {n : Nat} (hn : n < 1000) (h1 : ¬ i < 0) (h2 : ¬ nI n ≤ i) : ∃ j, j < n ∧ i = nI j := by
  obtain ⟨j, hj, e⟩ := nI_of h1
  refine ⟨j, ?_, e⟩
  rw [e] at h2
  exact Nat.lt_of_not_le (fun z => h2 ((nI_leI (by omega) hj).mpr z))
theorem wrd_iff {n i : Int32} : wrdB n i = true ↔ ¬ i < 0 ∧ ¬ n ≤ i := by unfold wrdB; exact ⟨of_decide_eq_true, decide_eq_true⟩
theorem sh35 : (nI 35).toNatClampNeg = 35 := by decide +kernel
theorem sh37 : (nI 37).toNatClampNeg = 37 := by decide +kernel
theorem tw_words {M : Mem} (h : Inv M) : Two mX6_words mX7_words [.ref 0] [.ref 72] M := by
  have hI := h
  obtain ⟨n, tl, B, ln, s, r⟩ := h
  have a := s_words M
  have b := s_7_words M
  rw [s.2.1] at a
  rw [s.2.2.1] at b
  exact two_ret a b hI
theorem s_colsB (M : Mem) {B : Nat} (hs : shAt M B) : Spec mX6_columns [.ref 0] M (Ret (colF M B) M) := by
  rcases hs with ⟨e, h5, _⟩ | ⟨e, h5, _⟩
  · subst e; exact s_cols35 M (by rw [h5]; exact sh35)
  · subst e; exact s_cols37 M (by rw [h5]; exact sh37)
theorem col_laid {M : Mem} {B n W : Nat} {ln ws : Nat → Nat} (hl : ¬ M 0 11 = 0) (hn : 1 ≤ n) (hy : layC M B n W ln ws) : colF M B = nI W := by
  unfold colF
  rw [if_neg hl]
  exact (hy.1.2 0 (by omega)).1
theorem col_not {M : Mem} {B : Nat} (hl : M 0 11 = 0) : colF M B = 0 := by
  unfold colF
  rw [if_pos hl, nI_0]
theorem tw_cols {M : Mem} (h : Inv M) : Two mX6_columns mX7_columns [.ref 0] [.ref 72] M := by
  have hI := h
  obtain ⟨n, tl, B, ln, s, r1, r2, r3, r4⟩ := h
  have a := s_colsB M r1
  have b := s_7_columns M
  rcases r4 with ⟨c1, c2⟩ | ⟨c1, c2, W, ws, y, r, c3⟩
  · rw [col_not c1] at a
    rw [c2] at b
    exact two_ret a b hI
  · rw [col_laid c1 c2 y] at a
    rw [r.1] at b
    exact two_ret a b hI
theorem s_at1B (M : Mem) {B i k W : Nat} (hs : shAt M B) (hwd : wrdB (M 0 7) (nI i) = true) (hi : i < 5) (hW : colF M B = nI W) (hW6 : W ≤ 60) (hk : k < W) (hc : okc (M (B + i + 5) k)) : Spec mX6_at [.ref 0, .int (nI i), .int (nI k)] M (Ret (atF (M (B + i + 5) k)) M) := by
  rcases hs with ⟨e, h5, _⟩ | ⟨e, h5, _⟩
  · subst e; exact s_at1_35 M (by rw [h5]; exact sh35) hwd hi hW hW6 hk hc
  · subst e; exact s_at1_37 M (by rw [h5]; exact sh37) hwd hi hW hW6 hk hc
theorem s_at0B (M : Mem) {B : Nat} {i k : Int32} (hs : shAt M B) (hno : ¬ (wrdB (M 0 7) i = true ∧ ¬ k < 0 ∧ k < colF M B)) : Spec mX6_at [.ref 0, .int i, .int k] M (Ret (nI 32) M) := by
  rcases hs with ⟨e, h5, _⟩ | ⟨e, h5, _⟩
  · subst e; exact s_at0_35 M (by rw [h5]; exact sh35) hno
  · subst e; exact s_at0_37 M (by rw [h5]; exact sh37) hno
theorem tw_at {M : Mem} (i k : Int32) (h : Inv M) : Two mX6_at mX7_at [.ref 0, .int i, .int k] [.ref 72, .int i, .int k] M := by
  have hI := h
  obtain ⟨n, tl, B, ln, s, r1, r2, r3, r4⟩ := h
  have hn5 := s.1
  rcases r4 with ⟨c1, c2⟩ | ⟨c1, c2, W, ws, y, r, c3⟩
  · refine two_ret (s_at0B M r1 (fun z => z.2.1 ?_)) (s_mat0 M (fun z => z.1 (by rw [r3]; exact c1))) hI
    have := z.2.2
    rw [col_not c1] at this
    exact this
  · have hW := y.1.1
    by_cases d : (¬ i < 0 ∧ ¬ nI n ≤ i) ∧ ¬ k < 0 ∧ ¬ nI W ≤ k
    · obtain ⟨a, ha, ea⟩ := nat_of (by omega) d.1.1 d.1.2
      obtain ⟨b, hb, eb⟩ := nat_of (by omega) d.2.1 d.2.2
      have o := (y.1.2 a ha).2.1 b hb
      have p1 := s_at1B M (i := a) (k := b) r1 (by rw [s.2.1, wrd_iff, ← ea]; exact d.1) (by omega) (col_laid c1 c2 y) hW hb o
      have p2 := s_mat1 M (i := a) (k := b) s.2.2.1 hn5 ha (by rw [r3]; exact c1) r.1 hW hb
      rw [r.2.1 a b ha hb, ← at_chr o] at p2
      rw [ea, eb]
      exact two_ret p1 p2 hI
    · refine two_ret (s_at0B M r1 (fun z => d ⟨by have := z.1; rw [s.2.1, wrd_iff] at this; exact this, z.2.1, by have := z.2.2; rw [col_laid c1 c2 y] at this; exact Int32.not_le.mpr this⟩)) (s_mat0 M (fun z => d ⟨⟨z.2.1, by have := z.2.2.1; rw [s.2.2.1] at this; exact this⟩, z.2.2.2.1, by have := z.2.2.2.2; rw [r.1] at this; exact this⟩)) hI
theorem inn_eq {n : Nat} {L i : Int32} (h1 : 1 ≤ n) (h5 : n ≤ 5) : innB L (nI n) (nI (2 * n - 1)) i = innM L (nI n) i := by
  unfold innB innM
  have e : nI 2 * nI n - nI 2 = nI (2 * n - 2) := by rw [pk_mul, nI_sub (by omega)]
  rw [e]
  congr 1
  have t1 := nI_toInt (n := 2 * n - 1) (by omega)
  have t2 := nI_toInt (n := 2 * n - 2) (by omega)
  have q : (nI (2 * n - 1) ≤ i) ↔ (nI (2 * n - 2) < i) := by
    rw [Int32.le_iff_toInt_le, Int32.lt_iff_toInt_lt, t1, t2]
    omega
  rw [q]
theorem innM_nat {n : Nat} {L i : Int32} (h1 : 1 ≤ n) (h5 : n ≤ 5) (h : innM L (nI n) i = true) : ∃ j, n ≤ j ∧ j < 2 * n - 1 ∧ i = nI j := by
  have g := of_decide_eq_true h
  have e : nI 2 * nI n - nI 2 = nI (2 * n - 2) := by rw [pk_mul, nI_sub (by omega)]
  rw [e] at g
  have t0 := nI_toInt (n := n) (by omega)
  have t2 := nI_toInt (n := 2 * n - 2) (by omega)
  have g1 := g.2.1
  have g2 := g.2.2
  rw [Int32.lt_iff_toInt_lt, t0] at g1
  rw [Int32.lt_iff_toInt_lt, t2] at g2
  have hp : ¬ i < 0 := by
    rw [Int32.lt_iff_toInt_lt]
    have : (0 : Int32).toInt = 0 := by decide
    omega
  obtain ⟨j, hj, ej⟩ := nI_of hp
  have t3 := nI_toInt (n := j) hj
  rw [ej, t3] at g1 g2
  exact ⟨j, by omega, by omega, ej⟩
theorem tw_child {M : Mem} (i k : Int32) (h : Inv M) : Two mX6_child mX7_child [.ref 0, .int i, .int k] [.ref 72, .int i, .int k] M := by
  have hI := h
  obtain ⟨n, tl, B, ln, s, r1, r2, r3, r4⟩ := h
  have hn5 := s.1
  rcases r4 with ⟨c1, c2⟩ | ⟨c1, c2, W, ws, y, r, c3⟩
  · exact two_ret (s_child0 M (fun z => (of_decide_eq_true z.1).1 c1)) (s_mchild0 M (fun z => (of_decide_eq_true z.1).1 (by rw [r3]; exact c1))) hI
  · have e : innB (M 0 11) (M 0 7) (M 16 10) i = innM (M 72 11) (M 72 0) i := by rw [r3, s.2.1, s.2.2.1, y.2.2.2.2.1]; exact inn_eq c2 hn5
    by_cases d : innM (M 72 11) (M 72 0) i = true ∧ ¬ k < 0 ∧ k ≤ nI 1
    · have d1 := d.1
      rw [s.2.2.1] at d1
      obtain ⟨a, h1, h2, ea⟩ := innM_nat c2 hn5 d1
      obtain ⟨b, hb, eb⟩ := nat_of (n := 2) (by omega) d.2.1 (fun z => by
        have g := Int32.le_iff_toInt_le.mp z
        have g2 := Int32.le_iff_toInt_le.mp d.2.2
        rw [nI_toInt (by omega)] at g g2
        omega)
      subst ea eb
      have p1 := s_child1 M (i := a) (s := b) (by omega) hb (by rw [e]; exact d.1)
      have p2 := s_mchild1 M (i := a) (s := b) (by omega) hb d.1
      rw [(r.2.2.1 a h1 h2).1, (r.2.2.1 a h1 h2).2.1] at p2
      exact two_ret p1 p2 hI
    · exact two_ret (s_child0 M (by rw [e]; exact d)) (s_mchild0 M d) hI
theorem tw_worth {M : Mem} (i : Int32) (h : Inv M) : Two mX6_worth mX7_worth [.ref 0, .int i] [.ref 72, .int i] M := by
  have hI := h
  obtain ⟨n, tl, B, ln, s, r1, r2, r3, r4⟩ := h
  have hn5 := s.1
  rcases r4 with ⟨c1, c2⟩ | ⟨c1, c2, W, ws, y, r, c3⟩
  · exact two_ret (s_worth0 M (decide_eq_false (fun z => z.1 c1))) (s_mworth0 M (decide_eq_false (fun z => z.1 (by rw [r3]; exact c1)))) hI
  · have e : innB (M 0 11) (M 0 7) (M 16 10) i = innM (M 72 11) (M 72 0) i := by rw [r3, s.2.1, s.2.2.1, y.2.2.2.2.1]; exact inn_eq c2 hn5
    cases d : innM (M 72 11) (M 72 0) i with
    | true =>
      have d1 := d
      rw [s.2.2.1] at d1
      obtain ⟨a, h1, h2, ea⟩ := innM_nat c2 hn5 d1
      subst ea
      have p1 := s_worth1 M (i := a) (by omega) (by rw [e]; exact d)
      have p2 := s_mworth1 M (i := a) (by omega) d
      rw [(r.2.2.1 a h1 h2).2.2] at p2
      exact two_ret p1 p2 hI
    | false => exact two_ret (s_worth0 M (by rw [e]; exact d)) (s_mworth0 M d) hI
theorem tw_weight {M : Mem} (i : Int32) (h : Inv M) : Two mX6_weight mX7_weight [.ref 0, .int i] [.ref 72, .int i] M := by
  have hI := h
  obtain ⟨n, tl, B, ln, s, r1, r2, r3, r4⟩ := h
  have hn5 := s.1
  rcases r4 with ⟨c1, c2⟩ | ⟨c1, c2, W, ws, y, r, c3⟩
  · exact two_ret (s_weight0 M (fun z => z.1 c1)) (s_mweight0 M (fun z => z.1 (by rw [r3]; exact c1))) hI
  · by_cases d : ¬ i < 0 ∧ ¬ nI n ≤ i
    · obtain ⟨a, ha, ea⟩ := nat_of (by omega) d.1 d.2
      have p1 := s_weight1 M (i := a) (by omega) c1 (by rw [s.2.1, wrd_iff, ← ea]; exact d)
      have p2 := s_mweight1 M (i := a) s.2.2.1 hn5 ha (by rw [r3]; exact c1)
      rw [r.2.2.2 a ha] at p2
      rw [ea]
      exact two_ret p1 p2 hI
    · exact two_ret (s_weight0 M (fun z => d (by have := z.2; rw [s.2.1, wrd_iff] at this; exact this))) (s_mweight0 M (fun z => d ⟨z.2.1, by have := z.2.2; rw [s.2.2.1] at this; exact this⟩)) hI
theorem s_total1B (M : Mem) {B n W : Nat} (hs : shAt M B) (hl : ¬ M 0 11 = 0) (hn : M 0 7 = nI n) (hn5 : n ≤ 5) (hw : W ≤ 60) (hW : ∀ a, a < n → M (B + a) 1 = nI W) (hc : ∀ a b, a < n → b < W → okc (M (B + a + 5) b)) : Spec mX6_total [.ref 0] M (Ret (totC M B W n) M) := by
  rcases hs with ⟨e, h5, _⟩ | ⟨e, h5, _⟩
  · subst e; exact s_total1_35 M (by rw [h5]; exact sh35) hl hn hn5 hw hW hc
  · subst e; exact s_total1_37 M (by rw [h5]; exact sh37) hl hn hn5 hw hW hc
theorem tw_total {M : Mem} (h : Inv M) : Two mX6_total mX7_total [.ref 0] [.ref 72] M := by
  have hI := h
  obtain ⟨n, tl, B, ln, s, r1, r2, r3, r4⟩ := h
  have hn5 := s.1
  rcases r4 with ⟨c1, c2⟩ | ⟨c1, c2, W, ws, y, r, c3⟩
  · exact two_ret (s_total0 M c1) (s_mtotal0 M (by rw [r3]; exact c1)) hI
  · have p1 := s_total1B M r1 c1 s.2.1 hn5 y.1.1 (fun a ha => (y.1.2 a ha).1) (fun a b ha hb => (y.1.2 a ha).2.1 b hb)
    have p2 := s_mtotal1 M (by rw [r3]; exact c1) s.2.2.1 hn5 r.1 y.1.1 (fun a k ha hk => by rw [r.2.1 a k ha hk]; exact (y.1.2 a ha).2.1 k hk)
    rw [tot_same (C := M) (B := B) r.2.2.2 (fun k hk => (s.2.2.2.1.2.1 k hk).1) s.2.2.2.1.2.2.1 s.2.2.2.1.2.2.2.1 (fun a k ha hk => ⟨r.2.1 a k ha hk, (y.1.2 a ha).2.1 k hk⟩)] at p2
    exact two_ret p1 p2 hI
