/-! the reference's align, whole -/
/-- the layout, the tree and the weights of the class (memory C, sheet's rows at B) and of the reference (memory R) are the same -/
def layR (C R : Mem) (B n W : Nat) : Prop := R 72 23 = nI W ∧ (∀ i c, i < n → c < W → R 89 (60 * i + c) = C (B + i + 5) c) ∧ (∀ k, n ≤ k → k < 2 * n - 1 → R 78 k = C 17 k ∧ R 79 k = C 18 k ∧ R 81 k = C 19 k) ∧ ∀ i, i < n → R 88 i = C 24 i
/-- what the reference's turns leave alone -/
def rfKeep (M N : Mem) : Prop := (∀ f, f < 11 → N 72 f = M 72 f) ∧ ∀ z, z ≠ 39 → z ≠ 40 → (z < 72 ∨ (72 < z ∧ z < 78) ∨ 95 < z) → N z = M z
theorem l_mA {N : Mem} {Post : Option Value → Mem → Prop} (hp : G mX7_align 92 [some (.ref 72), some (.int (nI 0)), none, none] [] N Post) : G mX7_align 90 [some (.ref 72), none, none, none] [] N Post := by
  refine blk 7 [(.iconst 0, 0, 0, (nI 0)), (.istore_n 1, 0, 0, 0)] [] (by decide +kernel) rfl (pc' := 92) (ls' := [some (.ref 72), some (.int (nI 0)), none, none]) (st' := []) (M' := N) rfl ⟨trivial, trivial, trivial⟩ ?_
  refine G.sub (ls' := [some (.ref 72), some (.int (nI 0)), none, none]) ?_ ⟨rfl, rfl, trivial⟩
  exact hp
theorem l_mB {N : Mem} {n : Nat} {Post : Option Value → Mem → Prop} (hn : N 72 0 = nI n) (hn1 : 1 ≤ n) (hp : G mX7_align 201 [some (.ref 72), some (.int (nI (2 * n - 2))), some (.int (nI n)), none] [] N Post) : G mX7_align 187 [some (.ref 72), none, none, none] [] N Post := by
  refine blk 7 [(.iconst 2, 0, 0, (nI 2)), (.aload_n 0, 0, 0, 0), (.getfield 103, 7, 0, 0), (.imul, 0, 0, 0), (.iconst 2, 0, 0, (nI 2)), (.isub, 0, 0, 0), (.istore_n 1, 0, 0, 0), (.aload_n 0, 0, 0, 0), (.getfield 103, 7, 0, 0), (.istore_n 2, 0, 0, 0)] [] (by decide +kernel) rfl (pc' := 201) (ls' := [some (.ref 72), some (.int (((nI 2) * (N 72 0)) - (nI 2))), some (.int (N 72 0)), none]) (st' := []) (M' := N) rfl ⟨trivial, trivial, rfl, trivial, trivial, trivial, trivial, trivial, rfl, trivial, trivial⟩ ?_
  refine G.sub (ls' := [some (.ref 72), some (.int (nI (2 * n - 2))), some (.int (nI n)), none]) ?_ ⟨rfl, congrArg (fun z => some (Value.int z)) (by rw [hn, pk_mul, nI_sub (by omega)]), congrArg (fun z => some (Value.int z)) hn, trivial⟩
  exact hp
theorem l_mC {D : Nat → Nat → Int32} {sp : Bool} {N : Mem} {n : Nat} {h : Hist} {Post : Option Value → Mem → Prop} (hn5 : n ≤ 5) (hl : h.length + 1 = n) (hh : okH n h) (hT : mT D sp n h N) (hp : ∀ E, (∀ a, a < n → E 88 a = wtF D sp n h (N 72 10) a) → (∀ a, a < n → E 39 a = E 88 a) → (∀ z, z ≠ 88 → z ≠ 39 → E z = N z) → G mX7_align 230 [some (.ref 72), some (.int (nI (2 * n - 2))), some (.int (nI n)), none] [] E Post) : G mX7_align 217 [some (.ref 72), some (.int (nI (2 * n - 2))), none, none] [] N Post := by
  refine blk 7 [(.aload_n 0, 0, 0, 0)] [] (by decide +kernel) rfl (pc' := 218) (ls' := [some (.ref 72), some (.int (nI (2 * n - 2))), none, none]) (st' := [.ref 72]) (M' := N) rfl ⟨trivial, trivial⟩ ?_
  refine g_callV (s_mweigh N hn5 hl hh hT) ok_X7_align_X7_weigh (by decide +kernel) rfl (c := 7) rfl (by decide) rfl (Nat.le_of_ble_eq_true rfl) (fun r A hA => ?_) rfl
  obtain ⟨hr, a1, a2⟩ := hA
  rw [hr]
  show G _ 221 [some (.ref 72), some (.int (nI (2 * n - 2))), none, none] [] A _
  refine blk 7 [(.aload_n 0, 0, 0, 0)] [] (by decide +kernel) rfl (pc' := 222) (ls' := [some (.ref 72), some (.int (nI (2 * n - 2))), none, none]) (st' := [.ref 72]) (M' := A) rfl ⟨trivial, trivial⟩ ?_
  refine g_callV (s_use A (n := n) (by rw [a2 72 (by decide)]; exact hT.1) hn5) ok_X7_align_X7_useWeights (by decide +kernel) rfl (c := 7) rfl (by decide) rfl (Nat.le_of_ble_eq_true rfl) (fun r E hE => ?_) rfl
  obtain ⟨hr2, e1, e2⟩ := hE
  rw [hr2]
  show G _ 225 [some (.ref 72), some (.int (nI (2 * n - 2))), none, none] [] E _
  refine blk 7 [(.aload_n 0, 0, 0, 0), (.getfield 103, 7, 0, 0), (.istore_n 2, 0, 0, 0)] [] (by decide +kernel) rfl (pc' := 230) (ls' := [some (.ref 72), some (.int (nI (2 * n - 2))), some (.int (E 72 0)), none]) (st' := []) (M' := E) rfl ⟨trivial, rfl, trivial, trivial⟩ ?_
  refine G.sub (ls' := [some (.ref 72), some (.int (nI (2 * n - 2))), some (.int (nI n)), none]) ?_ ⟨rfl, rfl, congrArg (fun z => some (Value.int z)) (by rw [e2 72 (by decide), a2 72 (by decide)]; exact hT.1), trivial⟩
  refine hp E (fun a ha => by rw [e2 88 (by decide)]; exact a1 a ha) (fun a ha => by rw [e1 a (by omega), if_pos ha, e2 88 (by decide)]) (fun z h1 h2 => by rw [e2 z h2, a2 z h1])
theorem l_mD {N : Mem} {n : Nat} {Post : Option Value → Mem → Prop} (hn1 : 1 ≤ n) (hn5 : n ≤ 5) (hp : G mX7_align 326 [some (.ref 72), some (.int (nI (2 * n - 2))), some (.int (nI 0)), none] [] (stm N 72 23 (N 83 (2 * n - 2))) Post) : G mX7_align 314 [some (.ref 72), some (.int (nI (2 * n - 2))), none, none] [] N Post := by
  refine blk 7 [(.aload_n 0, 0, 0, 0), (.aload_n 0, 0, 0, 0), (.getfield 44, 7, 17, 0), (.iload_n 1, 0, 0, 0), (.iaload, 0, 0, 0), (.putfield 93, 7, 23, 0), (.iconst 0, 0, 0, (nI 0)), (.istore_n 2, 0, 0, 0)] [2 * n - 2] (by decide +kernel) rfl (pc' := 326) (ls' := [some (.ref 72), some (.int (nI (2 * n - 2))), some (.int (nI 0)), none]) (st' := []) (M' := stm N 72 23 (N 83 (2 * n - 2))) rfl ⟨trivial, trivial, rfl, trivial, ⟨rfl, (by show _ < 9; omega)⟩, rfl, trivial, trivial, trivial⟩ ?_
  refine G.sub (ls' := [some (.ref 72), some (.int (nI (2 * n - 2))), some (.int (nI 0)), none]) ?_ ⟨rfl, rfl, rfl, trivial⟩
  exact hp
theorem s_malign1 (M : Mem) {C N0 : Mem} {B n : Nat} {ln : Nat → Nat} {r : Option Value} (hn : M 72 0 = nI n) (hn1 : 1 ≤ n) (hn5 : n ≤ 5) (hW : sameW C M n ln) (h9 : M 72 9 = C 0 9) (h10 : M 72 10 = C 0 10) (hps : ∀ i, i < 5 → ps 11 (C 24 i)) (hP : alP C B n ln r N0) : Spec mX7_align [.ref 72] M (fun r' N => r' = r ∧ (∀ W, W ≤ 60 → r = some (.int (nI W)) → layR N0 N B n W) ∧ N 72 11 = nI 1 ∧ rfKeep M N) := by
  obtain ⟨dd, h, ws, wd, ce, wt, p1, p2, p3, p4, p5, p6, p7, p8, p9, p10, p11, p12, p13, p14⟩ := hP
  have hok := picked_ok p3
  have er : n + h.length - 1 = 2 * n - 2 := by omega
  have hgo : G mX7_align 11 [some (.ref 72), some (.int (nI 0)), none, none] [] M (fun r' N => r' = r ∧ (∀ W, W ≤ 60 → r = some (.int (nI W)) → layR N0 N B n W) ∧ N 72 11 = nI 1 ∧ rfKeep M N) := by
    refine l_ma1 (C := C) (M := M) hn hn5 hW p1 (fun N1 q1 q2 => l_mA ?_) _ 0 M rfl (by omega) (fun a b ha hb hab => absurd hab (by omega)) ⟨fun _ _ _ => rfl, fun _ _ _ _ _ _ _ => rfl⟩
    have k1 : ∀ z, 72 < z → z < 86 → N1 z = M z := fun z h1 h2 => q2.2 z (by omega) (by omega) (by omega) (by omega) (by omega) (by omega)
    have hn1' : N1 72 0 = nI n := by rw [q2.1 0 (by omega) (by omega)]; exact hn
    refine l_ml1 (M := N1) (ln := ln) hn1' hn5 (fun i hi => by unfold mwordOK; rw [k1 73 (by omega) (by omega), k1 74 (by omega) (by omega)]; exact (hW.1 i hi).2.1) (fun N2 q3 q4 => l_mB (by rw [q4 72 (by decide) (by decide) (by decide) (by decide) (by decide)]; exact hn1') hn1 ?_) _ 0 N1 rfl (by omega) (fun a ha => absurd ha (by omega)) (fun _ _ _ _ _ _ => rfl)
    have k2 : ∀ z, z ≠ 80 → z ≠ 82 → z ≠ 83 → z ≠ 84 → z ≠ 85 → N2 z = N1 z := q4
    refine l_mjn (M := N2) (h := h) (sp := spOf (C 0 9)) hn5 p2 p1.1 p1.2.1 p3 (fun N3 q5 q6 => ?_) _ h [] N2 rfl (by simp) ?_ ⟨fun _ _ _ => rfl, fun _ _ _ _ _ _ _ _ => rfl⟩
    · refine l_mC (h := h) hn5 p2 hok q5 (fun N4 q7 q8 q9 => ?_)
      have t4 : mT (dI dd) (spOf (C 0 9)) n h N4 := mT_fr (by rw [q9 72 (by decide) (by decide)]) (by rw [q9 72 (by decide) (by decide)]) (fun z hz => q9 z (by omega) (by omega)) q5
      have f4 : ∀ f, (f < 25 ∨ 28 < f) → f ≠ 31 → f ≠ 38 → f ≠ 39 → N4 72 f = M 72 f := fun f h1 h2 h3 h4 => by rw [q9 72 (by decide) (by decide), q6.1 f h3 h4, q4 72 (by decide) (by decide) (by decide) (by decide) (by decide)]; exact q2.1 f h1 h2
      have z4 : ∀ z, z ≠ 39 → z ≠ 40 → (z < 72 ∨ (72 < z ∧ z < 78) ∨ 95 < z) → N4 z = M z := fun z h1 h2 h3 => by rw [q9 z (by omega) h1, q6.2 z (by omega) (by omega) (by omega) (by omega) (by omega) (by omega) (by omega), q4 z (by omega) (by omega) (by omega) (by omega) (by omega)]; exact q2.2 z h1 h2 (by omega) (by omega) (by omega) (by omega)
      have w4 : ∀ a, a < n → N4 88 a = N0 24 a := fun a ha => by
        rw [q7 a ha, q6.1 10 (by omega) (by omega), q4 72 (by decide) (by decide) (by decide) (by decide) (by decide), q2.1 10 (by omega) (by omega), h10, (p6 a ha).2]; exact (p6 a ha).1.symm
      have c4 : ∀ a, a < n → N4 83 a = nI (wd a) ∧ ∀ w, w < 5 → ¬ hb (nI (mskF n h a)) w = 0 → ∀ c, c < wd a → N4 84 (300 * a + (60 * w + c)) = ce a w c := fun a ha => by
        have e83 : N4 83 = N2 83 := by rw [q9 83 (by decide) (by decide), q6.2 83 (by decide) (by decide) (by decide) (by decide) (by decide) (by decide) (by decide)]
        have e84 : N4 84 = N2 84 := by rw [q9 84 (by decide) (by decide), q6.2 84 (by decide) (by decide) (by decide) (by decide) (by decide) (by decide) (by decide)]
        have e := p9 a ha
        refine ⟨by rw [e83, (q3 a ha).2.2.2.1, e.1], fun w hw hx c hc => ?_⟩
        rw [(hist_leaf hn5 (by omega) hok ha).1, ← bit_nI (by omega)] at hx
        have ew := (hb_bit_ne (by omega) hw).mp hx
        subst ew
        rw [e.1] at hc
        rw [e84, ← Nat.add_assoc, (q3 w ha).2.2.2.2 c hc, k1 74 (by omega) (by omega), e.2 c hc]
        exact ((hW.1 w ha).2.2 c hc).symm
      have hdat : dataOK N0 24 := by
        refine ⟨fun i hi => ?_, fun k hk => ?_, ?_, ?_⟩
        · by_cases c : i < n
          · rw [(p6 i c).1]
            have b := p5 i c
            unfold ps
            rw [nI_toInt (by omega)]
            omega
          · rw [p7 i hi (by omega)]; exact hps i hi
        · rw [p14.2 3 (by omega)]; exact (hW.2.1 k hk).2
        · rw [p14.2 2 (by omega)]; exact hW.2.2.2.2.1
        · rw [p14.2 2 (by omega)]; exact hW.2.2.2.2.2.1
      refine l_mg1 (M := N4) (N0 := N0) (B := B) (wd := wd) (ce := ce) (wt := wt) hn5 hn1 p2 hok t4 p8 hdat (fun j h1 h2 => (p11 j h1 h2).2) (fun a ha => by rw [q8 a ha]; exact w4 a ha) (fun k hk => by rw [z4 77 (by decide) (by decide) (by omega), p14.2 3 (by omega)]; exact (hW.2.1 k hk).1) (by rw [f4 6 (by omega) (by omega) (by omega) (by omega), p14.2 2 (by omega)]; exact hW.2.2.1) (by rw [f4 7 (by omega) (by omega) (by omega) (by omega), p14.2 2 (by omega)]; exact hW.2.2.2.1) (fun N5 q10 q11 => l_mD hn1 hn5 ?_) _ n N4 rfl (Nat.le_refl _) (by omega) ⟨c4, fun j h1 h2 => absurd h2 (by omega)⟩ ⟨fun _ _ _ => rfl, fun _ _ _ _ _ _ _ => rfl⟩
      refine l_mg5 (B := stm N5 72 23 (N5 83 (2 * n - 2))) hn1 hn5 (fun N6 q12 q13 => ?_) _ 0 _ rfl (by omega) (fun y h => absurd h (by omega)) (fun _ _ => rfl)
      have t5 : mT (dI dd) (spOf (C 0 9)) n h N5 := mT_fr (q11.1 0 (by omega) (by omega)) (q11.1 9 (by omega) (by omega)) (fun z hz => q11.2 z (by omega) (by omega) (by omega) (by omega) (by omega) (by omega)) t4
      have e6 : ∀ z, z ≠ 72 → z ≠ 89 → stm N6 72 11 (nI 1) z = N5 z := fun z h1 h2 => by rw [stm_ne h1, q13 z h2, stm_ne h1]
      have r83 : N5 83 (2 * n - 2) = nI (wd (2 * n - 2)) := (q10.1 (2 * n - 2) (by omega)).1
      have c6 : N6 72 23 = nI (wd (2 * n - 2)) := by rw [q13 72 (by decide), stm_self]; exact r83
      refine ⟨by rw [p12, c6, er], fun W hW6 hrW => ?_, stm_self, fun f hf => ?_, fun z h1 h2 h3 => ?_⟩
      · have hb9 := p8 (2 * n - 2) (by omega)
        have hsz := (hist_small hn5 (show h.length < n by omega) hok (a := 2 * n - 2) (by omega)).2.1
        have eW : W = wd (2 * n - 2) := by
          rw [p12, er] at hrW
          have : nI (wd (2 * n - 2)) = nI W := by injection hrW with e; injection e
          exact ((nI_eq (by omega) (by omega)).mp this).symm
        subst eW
        refine ⟨by rw [stm_off (by decide)]; exact c6, fun i c hi hc => ?_, fun k h1 h2 => ?_, fun i hi => ?_⟩
        · rw [stm_ne (by decide), q12 _ (by omega), stm_ne (by decide)]
          have hx : ¬ hb (nI (mskF n h (2 * n - 2))) i = 0 := by rw [← er]; exact (root_has hn1 hn5 p2 hok (by omega)).mpr hi
          rw [(q10.1 (2 * n - 2) (by omega)).2 i (by omega) hx c hc]
          rw [er] at p10
          exact ((p10 i (by omega) hx).2 c hc).1.symm
        · rw [e6 78 (by decide) (by decide), e6 79 (by decide) (by decide), e6 81 (by decide) (by decide), (t5.2.2.2.1 k h1 (by omega)).1, (t5.2.2.2.1 k h1 (by omega)).2, (p4.2.2.2.2.1 k h1 (by omega)).1, (p4.2.2.2.2.1 k h1 (by omega)).2, q10.2 k h1 (by omega), (p11 k h1 (by omega)).1]
          exact ⟨rfl, rfl, rfl⟩
        · rw [e6 88 (by decide) (by decide), q11.2 88 (by decide) (by decide) (by decide) (by decide) (by decide) (by decide)]; exact w4 i hi
      · rw [stm_off (by omega), q13 72 (by decide), stm_off (by omega), q11.1 f (by omega) (by omega)]; exact f4 f (by omega) (by omega) (by omega) (by omega)
      · rw [e6 z (by omega) (by omega), q11.2 z (by omega) h2 (by omega) (by omega) (by omega) (by omega)]; exact z4 z h1 h2 h3
    · refine mT_0 (by rw [q4 72 (by decide) (by decide) (by decide) (by decide) (by decide)]; exact hn1') ?_ (fun a ha => ⟨(q3 a ha).1, (q3 a ha).2.1, (q3 a ha).2.2.1⟩) (fun a b ha hb => by rw [q4 87 (by decide) (by decide) (by decide) (by decide) (by decide), q4 86 (by decide) (by decide) (by decide) (by decide) (by decide)]; exact q1 a b ha hb)
      rw [q4 72 (by decide) (by decide) (by decide) (by decide) (by decide), q2.1 9 (by omega) (by omega), h9]
      exact sp_iff
  refine Spec.of (by decide) (by simp [Value.category]) (Nat.le_of_ble_eq_true rfl) ?_
  refine blk 7 [(.aload_n 0, 0, 0, 0), (.getfield 103, 7, 0, 0)] [] (by decide +kernel) rfl (pc' := 4) (ls' := [some (.ref 72), none, none, none]) (st' := [.int (M 72 0)]) (M' := M) rfl ⟨trivial, rfl, trivial⟩ ?_
  refine g_if_ne (off := 5) (tgt := 9) (by decide +kernel) (by decide) (fun c1 => ?_) (fun c1 => ?_)
  · have nc1 : n ≠ 0 := by
      have z : ¬ nI n = nI 0 := by simpa only [hn, nI_add, pk_mul, nI_s1, n0_lit] using c1
      rw [nI_eq (by omega) (by omega)] at z
      omega
    refine blk 7 [(.iconst 0, 0, 0, (nI 0)), (.istore_n 1, 0, 0, 0)] [] (by decide +kernel) rfl (pc' := 11) (ls' := [some (.ref 72), some (.int (nI 0)), none, none]) (st' := []) (M' := M) rfl ⟨trivial, trivial, trivial⟩ ?_
    refine G.sub (ls' := [some (.ref 72), some (.int (nI 0)), none, none]) ?_ ⟨rfl, rfl, trivial⟩
    exact hgo
  · have nc1 : n = 0 := (nI_eq (by omega) (by omega)).mp (by simpa only [hn, nI_add, pk_mul, nI_s1, n0_lit] using c1)
    refine blk 7 [(.iconst (-1), 0, 0, (-1))] [] (by decide +kernel) rfl (pc' := 8) (ls' := [some (.ref 72), none, none, none]) (st' := [.int (-1)]) (M' := M) rfl ⟨trivial, trivial⟩ ?_
    exfalso
    have e : n = 0 := by omega
    omega
theorem s_malign0 (M : Mem) (hn : M 72 0 = nI 0) : Spec mX7_align [.ref 72] M (Ret (-1) M) := by
  refine Spec.of (by decide) (by simp [Value.category]) (Nat.le_of_ble_eq_true rfl) ?_
  refine blk 7 [(.aload_n 0, 0, 0, 0), (.getfield 103, 7, 0, 0)] [] (by decide +kernel) rfl (pc' := 4) (ls' := [some (.ref 72), none, none, none]) (st' := [.int (M 72 0)]) (M' := M) rfl ⟨trivial, rfl, trivial⟩ ?_
  refine g_if_ne (off := 5) (tgt := 9) (by decide +kernel) (by decide) (fun c1 => ?_) (fun c1 => ?_)
  · exact absurd (hn.trans nI_0) (by assumption)
  · refine blk 7 [(.iconst (-1), 0, 0, (-1))] [] (by decide +kernel) rfl (pc' := 8) (ls' := [some (.ref 72), none, none, none]) (st' := [.int (-1)]) (M' := M) rfl ⟨trivial, trivial⟩ ?_
    first
      | exact g_ireturn (by decide +kernel) rfl rfl ⟨rfl, rfl⟩
      | exact absurd (hn.trans nI_0) (by assumption)
