/-! pair, distance, align, refine, polish: class and reference -/
theorem shB {M : Mem} {B : Nat} (hs : shAt M B) : B = 51 ∨ B = 61 := by
  rcases hs with h | h
  · exact Or.inl h.1
  · exact Or.inr h.1
theorem mot_fr {M F : Mem} {B i j li lj : Nat} {r : Option Value} (hi : i < 5) (hj : j < 5) (h : motP M B i j li lj r F) : ∀ z, (z < 4 ∨ 15 < z) → (∀ a, a < 5 → z ≠ B + a ∧ z ≠ B + a + 5) → F z = M z := by
  intro z h1 h2
  obtain ⟨C, c1, c2, c3, c4, cz, hu⟩ := h
  obtain ⟨R, T, n, u1, u2, u3, u4, u5, u6, u7, u8, u9⟩ := hu
  rw [u9 z h1 (fun a ha _ => h2 a ha)]
  exact cz z (h2 i hi).1 (h2 i hi).2 (h2 j hj).1 (h2 j hj).2
theorem pair_same {M M' F F' : Mem} {B n i j : Nat} {ln : Nat → Nat} {r r' : Option Value} (hB : B = 51 ∨ B = 61) (hn5 : n ≤ 5) (hi : i < n) (hj : j < n) (hij : i ≠ j) (hW : sameW M M' n ln) (h1 : motP M B i j (ln i) (ln j) r F) (h2 : mmwP M' i j (ln i) (ln j) r' F') : r = r' := by
  obtain ⟨w1, w2, w3, w4, w5, w6, w7, w8⟩ := hW
  have W1 := w1 i hi
  have W2 := w1 j hj
  have b2 := W1.1.2.2.1
  have b4 := W2.1.2.2.1
  obtain ⟨C, c1, c2, c3, c4, cz, hu⟩ := h1
  obtain ⟨D, d25, d26, d27, d28, d90, d91, d39, d72, dz, hmg⟩ := h2
  have e2 : C 2 = M 2 := cz 2 (by omega) (by omega) (by omega) (by omega)
  have e3 : C 3 = M 3 := cz 3 (by omega) (by omega) (by omega) (by omega)
  have e97 : C 97 = M 97 := cz 97 (by omega) (by omega) (by omega) (by omega)
  have okP : ∀ a k, a < 5 → ¬ hb (bit i) a = 0 → k < ln i → okc (C (B + a + 5) k) := fun a k ha hx hk => by
    rw [(hb_bit_ne (by omega) ha).mp hx, c2 k hk]; exact Or.inr (W1.1.2.2.2 k hk)
  have okQ : ∀ a k, a < 5 → ¬ hb (bit j) a = 0 → k < ln j → okc (C (B + a + 5) k) := fun a k ha hx hk => by
    rw [(hb_bit_ne (by omega) ha).mp hx, c4 k hk]; exact Or.inr (W2.1.2.2.2 k hk)
  have hg : grp C D B (bit i) (bit j) 97 (ln i) (ln j) := by
    refine ⟨d25, d26, fun a k ha hx hk => ?_, fun a k ha hx hk => ?_, fun a ha _ => ?_, fun k hk => ?_, ?_, ?_⟩
    · rw [(hb_bit_ne (by omega) ha).mp hx, d90 k hk, c2 k hk]; exact (W1.2.2 k hk).symm
    · rw [(hb_bit_ne (by omega) ha).mp hx, d91 k hk, c4 k hk]; exact (W2.2.2 k hk).symm
    · rw [d39 a ha, e97, w7 a ha]
    · rw [dz 77 (by decide) (by decide) (by decide) (by decide), e3]; exact (w2 k hk).1
    · rw [d72 6 (by omega), e2]; exact w3
    · rw [d72 7 (by omega), e2]; exact w4
  have hdat : dataOK C 97 := eq_dataOK (M := M) (fun a ha => by rw [e97]; exact w7 a ha) (fun k hk => by rw [e3]; exact (w2 k hk).2) (by rw [e2]; exact w5) (by rw [e2]; exact w6)
  exact (merged_same hdat hg (by omega) okP okQ (fun a ha h1 h2 => hij (((hb_bit_ne (by omega) ha).mp h1).symm.trans ((hb_bit_ne (by omega) ha).mp h2))) hu hmg).1
theorem s_pair1B (M : Mem) {B n i j : Nat} {ln : Nat → Nat} (hs : shAt M B) (hn5 : n ≤ 5) (hc : clsOK M n ln) (hi : i < n) (hj : j < n) (hij : i ≠ j) : Spec mX6_pair [.ref 0, .int (nI i), .int (nI j)] M (motP M (112 - B) i j (ln i) (ln j)) := by
  have htw : twoB (M 0 7) (nI i) (nI j) = true := by rw [hc.1]; exact two_true hn5 hi hj hij
  rcases hs with ⟨e, _, h6⟩ | ⟨e, _, h6⟩
  · subst e; exact s_pair1_37 M htw (by rw [h6]; exact sh37) (by omega) (by omega) hij (hc.2.1 i hi) (hc.2.1 j hj) hc.2.2.1 hc.2.2.2.1 hc.2.2.2.2.1 hc.2.2.2.2.2
  · subst e; exact s_pair1_35 M htw (by rw [h6]; exact sh35) (by omega) (by omega) hij (hc.2.1 i hi) (hc.2.1 j hj) hc.2.2.1 hc.2.2.2.1 hc.2.2.2.2.1 hc.2.2.2.2.2
theorem two_nat {n : Nat} {i j : Int32} (hn5 : n ≤ 5) (h : twoB (nI n) i j = true) : ∃ a b, a < n ∧ b < n ∧ a ≠ b ∧ i = nI a ∧ j = nI b := by
  have g := of_decide_eq_true h
  obtain ⟨a, ha, ea⟩ := nat_of (by omega) g.1 g.2.1
  obtain ⟨b, hb, eb⟩ := nat_of (by omega) g.2.2.1 g.2.2.2.1
  exact ⟨a, b, ha, hb, fun z => g.2.2.2.2 (by rw [ea, eb, z]), ea, eb⟩
/-- after scratch work of class and reference all stands as before -/
theorem inv_scr {M F F' : Mem} {B n tl : Nat} {ln : Nat → Nat} (s : stI M n tl ln) (r : reI M B n ln) (h1 : ∀ z, (z < 4 ∨ 15 < z) → (∀ a, a < 5 → z ≠ 112 - B + a ∧ z ≠ 112 - B + a + 5) → F z = M z) (h2 : mdFr F F') : Inv F' := by
  have hB := shB r.1
  have hn5 := s.1
  have kz : ∀ z, (z < 4 ∨ 15 < z) → (∀ a, a < 5 → z ≠ 112 - B + a ∧ z ≠ 112 - B + a + 5) → z ≠ 39 → z ≠ 40 → z ≠ 72 → (z < 90 ∨ 95 < z) → F' z = M z := fun z a b c d e f => by rw [h2.2 z c d e f]; exact h1 z a b
  have k72 : ∀ f, (f < 25 ∨ 28 < f) → f ≠ 31 → F' 72 f = M 72 f := fun f a b => by rw [h2.1 f a b, h1 72 (by omega) (fun a ha => by omega)]
  have k0 : F' 0 = M 0 := kz 0 (by omega) (fun a ha => by omega) (by decide) (by decide) (by decide) (by omega)
  refine ⟨n, tl, B, ln, stI_cg (fun f _ _ _ => by rw [k0]) (fun f hf => k72 f (by omega) (by omega)) (fun z hz => kz z (by omega) (fun a ha => by omega) (by omega) (by omega) (by omega) (by omega)) s, reI_cg hn5 (fun f _ => by rw [k0]) (fun f hf => k72 f (by omega) (by omega)) (fun z hz => kz z (by omega) (fun a ha => by omega) (by omega) (by omega) (by omega) (by omega)) (fun a ha => ⟨kz _ (by omega) (fun b hb => by omega) (by omega) (by omega) (by omega) (by omega), kz _ (by omega) (fun b hb => by omega) (by omega) (by omega) (by omega) (by omega)⟩) r⟩
/-- the words of the class before a method of it, and of the reference after it -/
theorem same_after {M F : Mem} {n : Nat} {ln : Nat → Nat} (h : ∀ z, 70 < z → F z = M z) (hW : sameW M M n ln) : sameW M F n ln :=
  sameW_fr (h 73 (by omega)) (h 74 (by omega)) (h 77 (by omega)) (by rw [h 72 (by omega)]) (by rw [h 72 (by omega)]) (by rw [h 72 (by omega)]) hW
theorem tw_pair {M : Mem} (i j : Int32) (h : Inv M) : Two mX6_pair mX7_pair [.ref 0, .int i, .int j] [.ref 72, .int i, .int j] M := by
  have hI := h
  obtain ⟨n, tl, B, ln, s, r⟩ := h
  have hn5 := s.1
  have hB := shB r.1
  cases d : twoB (nI n) i j with
  | false => exact two_ret (s_pair0 M (by rw [s.2.1]; exact d)) (s_mpair0 M (by rw [s.2.2.1]; exact d)) hI
  | true =>
    obtain ⟨a, b, ha, hb, hab, ea, eb⟩ := two_nat hn5 d
    subst ea eb
    have hc := st_cls s
    refine ⟨_, s_pair1B M r.1 hn5 hc ha hb hab, fun x N hN => ?_⟩
    have fr := mot_fr (by omega) (by omega) hN
    have hW := same_after (fun z hz => fr z (by omega) (fun a ha => by omega)) s.2.2.2.1
    obtain ⟨v, hv⟩ : ∃ v, x = some (.int v) := by
      obtain ⟨_, _, _, _, _, _, hu⟩ := hN
      obtain ⟨_, T, _, _, _, _, _, _, u6, _⟩ := hu
      exact ⟨_, u6⟩
    refine ⟨v, _, hv, s_mpair1 N (i := a) (j := b) (by rw [fr 72 (by omega) (fun a ha => by omega), s.2.2.1]; exact two_true hn5 ha hb hab) (by omega) (by omega) (hW.1 a ha).2.1 (hW.1 b hb).2.1, fun r' N' h' => ⟨?_, inv_scr s r fr (mmw_fr h')⟩⟩
    rw [← hv]
    exact (pair_same (by omega) hn5 ha hb hab hW hN h').symm
theorem s_dist1B (M : Mem) {B n i j lo hi : Nat} {ln : Nat → Nat} (hs : shAt M B) (hn5 : n ≤ 5) (hc : clsOK M n ln) (hi' : i < n) (hj : j < n) (hij : i ≠ j) (ho : ord2 i j lo hi (ln i) (ln j) (ln lo) (ln hi)) : Spec mX6_distance [.ref 0, .int (nI i), .int (nI j)] M (cdP M (112 - B) i j lo hi (ln i) (ln j) (ln lo) (ln hi)) := by
  have htw : twoB (M 0 7) (nI i) (nI j) = true := by rw [hc.1]; exact two_true hn5 hi' hj hij
  rcases hs with ⟨e, _, h6⟩ | ⟨e, _, h6⟩
  · subst e; exact s_dist1_37 M htw (by rw [h6]; exact sh37) (by omega) (by omega) ho (hc.2.1 i hi') (hc.2.1 j hj) hc.2.2.1 hc.2.2.2.1 hc.2.2.2.2.1 hc.2.2.2.2.2
  · subst e; exact s_dist1_35 M htw (by rw [h6]; exact sh35) (by omega) (by omega) ho (hc.2.1 i hi') (hc.2.1 j hj) hc.2.2.1 hc.2.2.2.1 hc.2.2.2.2.1 hc.2.2.2.2.2
theorem tw_dist {M : Mem} (i j : Int32) (h : Inv M) : Two mX6_distance mX7_distance [.ref 0, .int i, .int j] [.ref 72, .int i, .int j] M := by
  have hI := h
  obtain ⟨n, tl, B, ln, s, r⟩ := h
  have hn5 := s.1
  have hB := shB r.1
  cases d : twoB (nI n) i j with
  | false => exact two_ret (s_dist0 M (by rw [s.2.1]; exact d)) (s_mdist0 M (by rw [s.2.2.1]; exact d)) hI
  | true =>
    obtain ⟨a, b, ha, hb, hab, ea, eb⟩ := two_nat hn5 d
    subst ea eb
    have hc := st_cls s
    obtain ⟨lo, hi, ho, hlh, hhn, _⟩ := ord_ex (dd := fun _ _ => 0) ln (fun _ _ => rfl) ha hb hab
    refine ⟨_, s_dist1B M r.1 hn5 hc ha hb hab ho, fun x N hN => ?_⟩
    obtain ⟨dn, hd, hx, hdW⟩ := dist_class (by omega) (by omega) (by omega) ho (hc.2.1 a ha) (hc.2.1 b hb) hN
    have fr : ∀ z, (z < 4 ∨ 15 < z) → (∀ a, a < 5 → z ≠ 112 - B + a ∧ z ≠ 112 - B + a + 5) → N z = M z := by
      obtain ⟨_, _, hN⟩ := hN
      rcases hN with ⟨_, r0, m, hm, _⟩ | ⟨_, hF, _⟩
      · exact mot_fr (by omega) (by omega) hm
      · intro z _ _; rw [hF]
    have hW := same_after (fun z hz => fr z (by omega) (fun a ha => by omega)) s.2.2.2.1
    refine ⟨nI dn, _, hx, s_mdist1 N (i := a) (j := b) (by rw [fr 72 (by omega) (fun a ha => by omega), s.2.2.1]; exact two_true hn5 ha hb hab) (by omega) (by omega) ho (hW.1 a ha).2.1 (hW.1 b hb).2.1, fun r' N' h' => ⟨dist_model hn5 ha hb hW ho hdW h', inv_scr s r fr (md_fr h')⟩⟩
theorem al_lay {M N : Mem} {B n : Nat} {ln : Nat → Nat} {r : Option Value} (hn1 : 1 ≤ n) (hn5 : n ≤ 5) (hc : clsOK M n ln) (hps : ∀ i, i < 5 → ps 11 (M 24 i)) (hP : alP M B n ln r N) : ∃ W ws, layC N B n W ln ws ∧ r = some (.int (nI W)) ∧ (n = 1 → W = ln 0) := by
  obtain ⟨dd, h, ws, wd, ce, wt, p1, p2, p3, p4, p5, p6, p7, p8, p9, p10, p11, p12, p13, p14⟩ := hP
  have hok := picked_ok p3
  have hsz := (hist_small hn5 (show h.length < n by omega) hok (a := n + h.length - 1) (by omega)).2.1
  have hwd := p8 (n + h.length - 1) (by omega)
  refine ⟨wd (n + h.length - 1), ws, ⟨⟨by omega, fun i hi => ?_⟩, p5, fun i hi => (p6 i hi).1, fun i hi => ?_, ?_, ?_⟩, p12, fun e => ?_⟩
  · have hx := (root_has hn1 hn5 p2 hok (w := i) (by omega)).mpr hi
    have g := p10 i (by omega) hx
    refine ⟨g.1, fun c hcc => by rw [(g.2 c hcc).1]; exact (g.2 c hcc).2, ?_⟩
    rw [ncnt_congr (fun k hk => (g.2 k hk).1)]
    exact node_cnt (M := M) hn5 (by omega) hok p8 p9 hc.2.1 (fun j h1 h2 => (p11 j h1 h2).2) _ (by omega) i (by omega) hx
  · by_cases c : i < n
    · rw [(p6 i c).1]
      have b := p5 i c
      unfold ps
      rw [nI_toInt (by omega)]
      omega
    · rw [p7 i hi (by omega)]; exact hps i hi
  · rw [p4.2.1]; congr 1; omega
  · rw [(p4.2.2.2.1 (2 * n - 2) (by omega)).1, (hist_top hn5 p2 hok).1]
  · have e2 : n + h.length - 1 = 0 := by omega
    rw [e2]
    exact (p9 0 (by omega)).1
theorem s_align1B (M : Mem) {B n : Nat} {ln : Nat → Nat} (hs : shAt M B) (hn1 : 1 ≤ n) (hn5 : n ≤ 5) (hc : clsOK M n ln) (hnb : M 0 9 = nI 0 ∨ M 0 9 = nI 1) (h24 : ∀ i, i < 5 → ps 11 (M 24 i)) : Spec mX6_align [.ref 0] M (alP M B n ln) := by
  rcases hs with ⟨e, h5, h6⟩ | ⟨e, h5, h6⟩
  · subst e; exact s_align1_35 M hn1 hn5 hc (by rw [h5]; exact sh35) (by rw [h6]; exact sh37) hnb h24
  · subst e; exact s_align1_37 M hn1 hn5 hc (by rw [h5]; exact sh37) (by rw [h6]; exact sh35) hnb h24
theorem layC_cg {C N : Mem} {B n W : Nat} {ln ws : Nat → Nat} (hn5 : n ≤ 5) (hB : B = 51 ∨ B = 61) (h : ∀ z, (15 < z ∧ z < 25) ∨ (50 < z ∧ z < 71) → N z = C z) (hy : layC C B n W ln ws) : layC N B n W ln ws := by
  obtain ⟨y1, y2, y3, y4, y5, y6⟩ := hy
  unfold layC
  rw [h 24 (by omega), h 16 (by omega), h 20 (by omega)]
  exact ⟨rowsOK_congr (fun a ha => ⟨h _ (by omega), h _ (by omega)⟩) y1, y2, y3, y4, y5, y6⟩
theorem layR_self {C N : Mem} {B n W : Nat} (hn5 : n ≤ 5) (hB : B = 51 ∨ B = 61) (h : ∀ z, (15 < z ∧ z < 25) ∨ (50 < z ∧ z < 71) → N z = C z) (hr : layR C N B n W) : layR N N B n W := by
  obtain ⟨r1, r2, r3, r4⟩ := hr
  refine ⟨r1, fun i c hi hc => by rw [h (B + i + 5) (by omega)]; exact r2 i c hi hc, fun k h1 h2 => by rw [h 17 (by omega), h 18 (by omega), h 19 (by omega)]; exact r3 k h1 h2, fun i hi => by rw [h 24 (by omega)]; exact r4 i hi⟩
theorem tw_align {M : Mem} (h : Inv M) : Two mX6_align mX7_align [.ref 0] [.ref 72] M := by
  have hI := h
  obtain ⟨n, tl, B, ln, s, r1, r2, r3, r4⟩ := h
  have hn5 := s.1
  have hB := shB r1
  have hc := st_cls s
  by_cases d : n = 0
  · subst d
    exact two_ret (s_align0 M (by rw [s.2.1]; exact nI_0)) (s_malign0 M s.2.2.1) hI
  · refine ⟨_, s_align1B M r1 (by omega) hn5 hc s.2.2.2.2.2.2.2.2.2 r2, fun x N hN => ?_⟩
    obtain ⟨W, ws, y, hx, h1⟩ := al_lay (by omega) hn5 hc r2 hN
    have f14 : alFr M N := by obtain ⟨_, _, _, _, _, _, _, _, _, _, _, _, _, _, _, _, _, _, _, p14⟩ := hN; exact p14
    have f13 : N 0 11 = nI 1 := by obtain ⟨_, _, _, _, _, _, _, _, _, _, _, _, _, _, _, _, _, _, p13, _⟩ := hN; exact p13
    have hi : ∀ z, 70 < z → N z = M z := fun z hz => f14.2 z (by omega)
    have hW := same_after hi s.2.2.2.1
    refine ⟨nI W, _, hx, s_malign1 N (C := M) (r := x) (by rw [hi 72 (by omega)]; exact s.2.2.1) (by omega) hn5 hW (by rw [hi 72 (by omega)]; exact s.2.2.2.2.2.2.2.1) (by rw [hi 72 (by omega)]; exact s.2.2.2.2.2.2.2.2.1) r2 hN, fun r' N' h' => ?_⟩
    obtain ⟨q1, q2, q3, q4⟩ := h'
    have kz : ∀ z, z ≠ 39 → z ≠ 40 → z < 72 → N' z = N z := fun z a b c => q4.2 z a b (by omega)
    refine ⟨by rw [q1]; exact hx, n, tl, B, ln, stI_cg (M := M) (fun f h1 h2 h3 => ?_) (fun f hf => ?_) (fun z hz => ?_) s, ?_, ?_, ?_, Or.inr ⟨?_, by omega, W, ws, layC_cg hn5 hB (fun z hz => kz z (by omega) (by omega) (by omega)) y, layR_self hn5 hB (fun z hz => kz z (by omega) (by omega) (by omega)) (q2 W y.1.1 hx), h1⟩⟩
    · rw [kz 0 (by omega) (by omega) (by omega)]; exact f14.1 f (by omega)
    · rw [q4.1 f hf, hi 72 (by omega)]
    · rw [q4.2 z (by omega) (by omega) (by omega)]; exact f14.2 z (by omega)
    · unfold shAt
      rw [kz 0 (by omega) (by omega) (by omega), f14.1 5 (by omega), f14.1 6 (by omega)]
      exact r1
    · rw [kz 24 (by omega) (by omega) (by omega)]; exact y.2.2.2.1
    · rw [q3, kz 0 (by omega) (by omega) (by omega), f13]
    · rw [kz 0 (by omega) (by omega) (by omega), f13]; decide +kernel
theorem sh2 {M : Mem} {B : Nat} (hs : shAt M B) : 112 - (112 - B) = B := by have := shB hs; omega
theorem tw_refine {M : Mem} (i : Int32) (h : Inv M) : Two mX6_refine mX7_refine [.ref 0, .int i] [.ref 72, .int i] M := by
  have hI := h
  obtain ⟨n, tl, B, ln, s, r1, r2, r3, r4⟩ := h
  have hn5 := s.1
  have hB := shB r1
  have hc := st_cls s
  rcases r4 with ⟨c1, c2⟩ | ⟨c1, c2, W, ws, y, r, c3⟩
  · exact two_ret (s_refine0 M (Or.inl c1)) (s_mrefine0 M (fun z => z.1 (by rw [r3]; exact c1))) hI
  · by_cases d : (¬ i < 0 ∧ ¬ nI n ≤ i) ∧ n ≠ 1
    · obtain ⟨a, ha, ea⟩ := nat_of (by omega) d.1.1 d.1.2
      subst ea
      refine ⟨_, s_refineB M s.2.1 (by omega) hn5 ha c1 r1 hc y, fun x N hN => ?_⟩
      obtain ⟨b, hx, hN⟩ := hN
      obtain ⟨V, v1, v2, v3, v4⟩ := rf_next hn5 ha hB hc y hN
      have hN0 := hN
      obtain ⟨T, F, r0, m, ht, pb, pr, po, pf, pz, psh⟩ := hN
      have hi : ∀ z, 70 < z → N z = M z := fun z hz => pz z (by omega)
      have hW := same_after hi s.2.2.2.1
      have hLR : layR M N B n W := by
        unfold layR
        rw [hi 72 (by omega), hi 89 (by omega), hi 78 (by omega), hi 79 (by omega), hi 81 (by omega), hi 88 (by omega)]
        exact r
      refine ⟨bI b, _, hx, s_mrefine1 N (C := M) (C' := N) (B := B) (B2 := 112 - B) (W := W) (i := a) (ln := ln) (b := b) (by rw [hi 72 (by omega)]; exact s.2.2.1) (by omega) hn5 ha hW y.1 r2 hLR hN0 (by rw [hi 72 (by omega), r3]; exact c1), fun r' N' h' => ?_⟩
      obtain ⟨q1, q2, q3, q4⟩ := h'
      have kz : ∀ z, z ≠ 39 → z ≠ 40 → z < 72 → N' z = N z := fun z a b c => q4.2 z a b (by omega)
      have hB2 : (if b = true then 112 - B else B) = 51 ∨ (if b = true then 112 - B else B) = 61 := by split <;> omega
      refine ⟨q1, n, tl, if b = true then 112 - B else B, ln, stI_cg (M := M) (fun f h1 h2 h3 => ?_) (fun f hf => ?_) (fun z hz => ?_) s, ?_, ?_, ?_, Or.inr ⟨?_, c2, V, ws, layC_cg hn5 hB2 (fun z hz => kz z (by omega) (by omega) (by omega)) v1, layR_self hn5 hB2 (fun z hz => kz z (by omega) (by omega) (by omega)) (q2 V v1.1), fun e => absurd e d.2⟩⟩
      · rw [kz 0 (by omega) (by omega) (by omega)]; exact pf f h2 h3
      · rw [q4.1 f hf, hi 72 (by omega)]
      · rw [q4.2 z (by omega) (by omega) (by omega)]; exact pz z (by omega)
      · unfold shAt at psh ⊢
        rw [kz 0 (by omega) (by omega) (by omega)]
        exact psh
      · rw [kz 24 (by omega) (by omega) (by omega)]; exact v1.2.2.2.1
      · rw [q3, kz 0 (by omega) (by omega) (by omega), hi 72 (by omega), pf 11 (by decide) (by decide)]; exact r3
      · rw [kz 0 (by omega) (by omega) (by omega), pf 11 (by decide) (by decide)]; exact c1
    · refine two_ret (s_refine0 M ?_) (s_mrefine0 M (fun z => d ⟨⟨z.2.1, by have := z.2.2.1; rw [s.2.2.1] at this; exact this⟩, fun e => z.2.2.2 (by rw [s.2.2.1, e])⟩)) hI
      rw [s.2.1]
      cases e : wrdB (nI n) i with
      | false => exact Or.inr (Or.inl rfl)
      | true =>
        refine Or.inr (Or.inr (fun z => d ⟨wrd_iff.mp e, fun e1 => ?_⟩))
        have := (nI_leI (by omega) (by omega)).mp z
        omega
theorem tw_polish {M : Mem} (h : Inv M) : Two mX6_polish mX7_polish [.ref 0] [.ref 72] M := by
  have hI := h
  obtain ⟨n, tl, B, ln, s, r1, r2, r3, r4⟩ := h
  have hn5 := s.1
  have hB := shB r1
  have hc := st_cls s
  rcases r4 with ⟨c1, c2⟩ | ⟨c1, c2, W, ws, y, r, c3⟩
  · exact two_ret (s_polish0 M c1) (s_mpolish0 M (by rw [r3]; exact c1)) hI
  · by_cases d : n = 1
    · exact two_ret (s_polish_one M s.2.1 d c1) (s_mpolish_one M s.2.2.1 d (by rw [r3]; exact c1)) hI
    · refine ⟨_, s_polish1 M s.2.1 (by omega) hn5 c1 r1 hc y, fun x N hN => ?_⟩
      obtain ⟨l, res, B', W', hx, hT, v1, v2, psh, pf, pz⟩ := hN
      have hi : ∀ z, 70 < z → N z = M z := fun z hz => pz z (by omega)
      have hW := same_after hi s.2.2.2.1
      have hLR : layR M N B n W := by
        unfold layR
        rw [hi 72 (by omega), hi 89 (by omega), hi 78 (by omega), hi 79 (by omega), hi 81 (by omega), hi 88 (by omega)]
        exact r
      refine ⟨nI res, _, hx, s_mpolish1 N (C := M) (C' := N) (by rw [hi 72 (by omega)]; exact s.2.2.1) (by omega) hn5 (by rw [hi 72 (by omega), r3]; exact c1) hT y.1 r2 hW hLR, fun r' N' h' => ?_⟩
      obtain ⟨q1, q2, q4, q3⟩ := h'
      have kz : ∀ z, z ≠ 39 → z ≠ 40 → z < 72 → N' z = N z := fun z a b c => q4.2 z a b (by omega)
      have hB2 := shB psh
      refine ⟨q1, n, tl, B', ln, stI_cg (M := M) (fun f h1 h2 h3 => ?_) (fun f hf => ?_) (fun z hz => ?_) s, ?_, ?_, ?_, Or.inr ⟨?_, c2, W', ws, layC_cg hn5 hB2 (fun z hz => kz z (by omega) (by omega) (by omega)) v1, layR_self hn5 hB2 (fun z hz => kz z (by omega) (by omega) (by omega)) q2, fun e => absurd e d⟩⟩
      · rw [kz 0 (by omega) (by omega) (by omega)]; exact pf f h2 h3
      · rw [q4.1 f hf, hi 72 (by omega)]
      · rw [q4.2 z (by omega) (by omega) (by omega)]; exact pz z (by omega)
      · unfold shAt at psh ⊢
        rw [kz 0 (by omega) (by omega) (by omega)]
        exact psh
      · rw [kz 24 (by omega) (by omega) (by omega)]; exact v1.2.2.2.1
      · rw [q3, kz 0 (by omega) (by omega) (by omega), hi 72 (by omega), pf 11 (by decide) (by decide)]; exact r3
      · rw [kz 0 (by omega) (by omega) (by omega), pf 11 (by decide) (by decide)]; exact c1
