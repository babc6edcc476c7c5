/-! mergeUpTheTree -/
def muP (M : Mem) (B n : Nat) (h : Hist) (ln : Nat → Nat) : Option Value → Mem → Prop := fun r N => r = none ∧ ∃ (wd : Nat → Nat) (ce : Nat → Nat → Nat → Int32) (wt : Nat → Int32),
  (∀ z, z < 4 ∨ 15 < z → z ≠ 19 → (∀ w, w < 5 → z ≠ B + w ∧ z ≠ B + w + 5) → N z = M z) ∧ (∀ a, a < n + h.length → 1 ≤ wd a ∧ wd a ≤ 12 * sizF n h a) ∧
  (∀ i, i < n → wd i = ln i ∧ ∀ c, c < ln i → ce i i c = M (41 + i + 5) c) ∧ grpW N B n h (n + h.length - 1) (wd (n + h.length - 1)) (ce (n + h.length - 1)) ∧ ∀ j, n ≤ j → j < n + h.length → N 19 j = wt j ∧ mrgW M B n h wd ce wt j
theorem l_mu35 {D : Nat → Nat → Int32} {sp : Bool} {M : Mem} {n : Nat} {h : Hist} {ln : Nat → Nat} (hn1 : 1 ≤ n) (hn5 : n ≤ 5) (hlen : h.length + 1 = n) (hok : okH n h) (hT : clT D sp n h M) (hL : (M 0 5).toNatClampNeg = 35) (hd : dataOK M 24) : ∀ d k N (wd : Nat → Nat) (ce : Nat → Nat → Nat → Int32) (wt : Nat → Int32), d = n + h.length - k → n ≤ k → k ≤ n + h.length → (∀ z, z < 4 ∨ 15 < z → z ≠ 19 → (∀ w, w < 5 → z ≠ 51 + w ∧ z ≠ 51 + w + 5) → N z = M z) → (∀ a, a < k → 1 ≤ wd a ∧ wd a ≤ 12 * sizF n h a) → (∀ a, opnAt n h k a → grpW N 51 n h a (wd a) (ce a)) → (∀ i, i < n → wd i = ln i ∧ ∀ c, c < ln i → ce i i c = M (41 + i + 5) c) → (∀ j, n ≤ j → j < k → N 19 j = wt j ∧ mrgW M 51 n h wd ce wt j) → G mX6_mergeUpTheTree 5 [some (.ref 0), some (.int (nI k)), none, none] [] N (muP M 51 n h ln) := by
  intro d
  induction d using Nat.strongRecOn with
  | ind d ih =>
    intro k N wd ce wt hdd hk0 hk1 j0 j1 j2 j4 j3
    have hn10 : N 16 10 = nI (n + h.length) := by rw [j0 16 (by omega) (by omega) (fun w hw => by omega)]; exact hT.2.1
    have hLN : (N 0 5).toNatClampNeg = 35 := by rw [j0 0 (by omega) (by omega) (fun w hw => by omega)]; exact hL
    refine blk 6 [(.iload_n 1, 0, 0, 0), (.aload_n 0, 0, 0, 0), (.getfield 41, 6, 4, 0), (.getfield 188, 5, 10, 0)] [] (by decide +kernel) rfl (pc' := 13) (ls' := [some (.ref 0), some (.int (nI k)), none, none]) (st' := [.int (N 16 10), .int (nI k)]) (M' := N) rfl ⟨trivial, trivial, rfl, rfl, trivial⟩ ?_
    refine g_icmp_ge (off := 74) (tgt := 87) (by decide +kernel) (by decide) (fun c1 => ?_) (fun c1 => ?_)
    · have nc1 : (n + h.length) ≤ k := (nI_leI (by omega) (by omega)).mp (by simpa only [hn10, nI_add, pk_mul, nI_s1, n0_lit] using c1)
      have e : k = n + h.length := by omega
      subst e
      refine g_return (by decide +kernel) rfl ⟨rfl, wd, ce, wt, j0, j1, j4, j2 _ ⟨by omega, ?_⟩, j3⟩
      have := hist_par hn5 (show h.length < n by omega) hok (a := n + h.length - 1) (by omega)
      omega
    · have nc1 : k < (n + h.length) := by
        have z : ¬ nI (n + h.length) ≤ nI k := by simpa only [hn10, nI_add, pk_mul, nI_s1, n0_lit] using c1
        rw [nI_leI (by omega) (by omega)] at z
        omega
      have hkid := hist_ch hn5 (show h.length < n by omega) hok (a := k) hk0 (by omega)
      have hsz := hist_sz hn5 (show h.length < n by omega) hok (k := k) hk0 (by omega)
      obtain ⟨l, hl⟩ : ∃ l, (kidF n h k).1 = l := ⟨_, rfl⟩
      obtain ⟨q, hq⟩ : ∃ q, (kidF n h k).2 = q := ⟨_, rfl⟩
      rw [hl, hq] at hkid hsz
      have hkid1 := hkid.1
      have hkid2 := hkid.2.1
      have hkid3 := hkid.2.2.1
      have hkid4 := hkid.2.2.2.1
      have sl := hist_small hn5 (show h.length < n by omega) hok (a := l) (by omega)
      have sq := hist_small hn5 (show h.length < n by omega) hok (a := q) (by omega)
      have hdis := hkid.2.2.2.2.2
      have hol : opnAt n h k l := ⟨by omega, Or.inr (by omega)⟩
      have hoq : opnAt n h k q := ⟨by omega, Or.inr (by omega)⟩
      have g1 := j2 l hol
      have g2 := j2 q hoq
      have hroom := room_ok (j1 l (by omega)).2 (j1 q (by omega)).2 hsz.2.1 hsz.2.2.1 (by omega)
      have hcP : ∀ a k, a < 5 → ¬ hb (nI (mskF n h l)) a = 0 → k < wd l → okc (N (51 + a + 5) k) := fun a k ha hx hk => by rw [((g1 a ha hx).2 k hk).1]; exact ((g1 a ha hx).2 k hk).2
      have hcQ : ∀ a k, a < 5 → ¬ hb (nI (mskF n h q)) a = 0 → k < wd q → okc (N (51 + a + 5) k) := fun a k ha hx hk => by rw [((g2 a ha hx).2 k hk).1]; exact ((g2 a ha hx).2 k hk).2
      have nz : ∀ z, z < 4 ∨ (15 < z ∧ z < 26 ∧ z ≠ 19) → N z = M z := fun z hz => j0 z (by omega) (by omega) (fun w hw => by omega)
      have hl17 : N 17 k = nI l := by rw [nz 17 (by omega), (hT.2.2.2.2.1 k hk0 (by omega)).1, hl]
      have hq18 : N 18 k = nI q := by rw [nz 18 (by omega), (hT.2.2.2.2.1 k hk0 (by omega)).2, hq]
      have hm1 : N 20 l = nI (mskF n h l) := by rw [nz 20 (by omega)]; exact (hT.2.2.2.1 l (by omega)).1
      have hm2 : N 20 q = nI (mskF n h q) := by rw [nz 20 (by omega)]; exact (hT.2.2.2.1 q (by omega)).1
      have hdN : dataOK N 24 := by unfold dataOK; rw [nz 24 (by omega), nz 3 (by omega), nz 2 (by omega)]; exact hd
      refine blk 6 [(.aload_n 0, 0, 0, 0), (.getfield 41, 6, 4, 0), (.getfield 185, 5, 3, 0), (.aload_n 0, 0, 0, 0), (.getfield 41, 6, 4, 0), (.getfield 169, 5, 0, 0), (.iload_n 1, 0, 0, 0), (.iaload, 0, 0, 0), (.iaload, 0, 0, 0), (.istore_n 2, 0, 0, 0), (.aload_n 0, 0, 0, 0), (.getfield 41, 6, 4, 0), (.getfield 185, 5, 3, 0), (.aload_n 0, 0, 0, 0), (.getfield 41, 6, 4, 0), (.getfield 172, 5, 1, 0), (.iload_n 1, 0, 0, 0), (.iaload, 0, 0, 0), (.iaload, 0, 0, 0), (.istore_n 3, 0, 0, 0), (.aload_n 0, 0, 0, 0), (.getfield 41, 6, 4, 0), (.getfield 175, 5, 2, 0), (.iload_n 1, 0, 0, 0), (.aload_n 0, 0, 0, 0), (.getfield 34, 6, 3, 0), (.aload_n 0, 0, 0, 0), (.getfield 48, 6, 5, 0)] [k, l, k, q] (by decide +kernel) rfl (pc' := 68) (ls' := [some (.ref 0), some (.int (nI k)), some (.int (N 20 l)), some (.int (N 20 q))]) (st' := [.ref ((N 0 5).toNatClampNeg), .ref 4, .int (nI k), .ref 19]) (M' := N) rfl ⟨trivial, rfl, rfl, trivial, rfl, rfl, trivial, ⟨rfl, (by show _ < 9; omega)⟩, ⟨hl17, (by show _ < 9; omega)⟩, trivial, trivial, rfl, rfl, trivial, rfl, rfl, trivial, ⟨rfl, (by show _ < 9; omega)⟩, ⟨hq18, (by show _ < 9; omega)⟩, trivial, trivial, rfl, rfl, trivial, trivial, rfl, trivial, rfl, trivial⟩ ?_
      rw [show (N 0 5).toNatClampNeg = 35 from hLN]
      refine blk 6 [(.iload_n 2, 0, 0, 0), (.iload_n 3, 0, 0, 0), (.aload_n 0, 0, 0, 0), (.getfield 41, 6, 4, 0), (.getfield 178, 5, 7, 0)] [] (by decide +kernel) rfl (pc' := 77) (ls' := [some (.ref 0), some (.int (nI k)), some (.int (N 20 l)), some (.int (N 20 q))]) (st' := [.ref 24, .int (N 20 q), .int (N 20 l), .ref 35, .ref 4, .int (nI k), .ref 19]) (M' := N) rfl ⟨trivial, trivial, trivial, rfl, rfl, trivial⟩ ?_
      rw [hm1, hm2]
      refine g_callV (s_unite35 N (P := nI (mskF n h l)) (Q := nI (mskF n h q)) (v := 24) (p := wd l) (q := wd q) (by decide) (by decide) hroom.1 hroom.2.1 hroom.2.2.1 hroom.2.2.2 (fun a ha hx => (g1 a ha hx).1) (fun a ha hx => (g2 a ha hx).1) (fun a ha => hb_and sl.2.2 sq.2.2 ha hdis) hcP hcQ (hist_some hn5 (by omega) hok (by omega)) (hist_some hn5 (by omega) hok (by omega)) (fun R hR => uR_bnd hdN hR)) ok_X6_mergeUpTheTree_X1_unite (by decide +kernel) rfl (c := 1) rfl (by decide) rfl (Nat.le_of_ble_eq_true rfl) (fun r F hF => ?_) rfl
      obtain ⟨x, m, hr, m1, m2, m3, m4, m5⟩ := uni_ok hcP hcQ hF
      rw [hr] at hF
      rw [hr]
      show G _ 80 [some (.ref 0), some (.int (nI k)), some (.int (nI (mskF n h l))), some (.int (nI (mskF n h q)))] [.int x, .int (nI k), .ref 19] F _
      refine blk 6 [(.iastore, 0, 0, 0), (.iinc 1 1, 0, 0, (nI 1)), (.goto (-79), 5, 0, 0)] [k] (by decide +kernel) rfl (pc' := 5) (ls' := [some (.ref 0), some (.int (nI k + nI 1)), some (.int (nI (mskF n h l))), some (.int (nI (mskF n h q)))]) (st' := []) (M' := stm F 19 k x) rfl ⟨⟨rfl, (by show _ < 9; omega), by decide⟩, trivial, trivial, trivial⟩ ?_
      refine G.sub (ls' := [some (.ref 0), some (.int (nI (k + 1))), none, none]) ?_ ⟨rfl, congrArg (fun z => some (Value.int z)) (by simp only [nI_add, nI_s1]), trivial⟩
      refine ih (d - 1) (by omega) (k + 1) _ (upF wd k m) (upF ce k (fun w c => F (51 + w + 5) c)) (upF wt k x) (by omega) (by omega) (by omega) (fun z hz h19 hw => ?_) (fun a ha => ?_) (fun a ha => ?_) (fun i hi => ?_) (fun j h0 hj => ?_)
      · rw [stm_ne h19, m5 z hz (fun a ha _ => hw a ha)]; exact j0 z hz h19 hw
      · by_cases e : a = k
        · subst e; rw [upF_self]; have := j1 l (by omega); have := j1 q (by omega); omega
        · rw [upF_ne e]; exact j1 a (by omega)
      · by_cases e : a = k
        · subst e
          rw [upF_self, upF_self]
          intro w hw hx
          rw [stm_ne (by omega), stm_ne (by omega)]
          have := m4 w hw (by rw [hkid.2.2.2.2.1] at hx; exact (hb_or sl.2.2 sq.2.2 hw).mp hx)
          exact ⟨this.1, fun c hc => ⟨rfl, this.2 c hc⟩⟩
        · rw [upF_ne e, upF_ne e]
          have ho : opnAt n h k a := ⟨by have := ha.1; omega, by have := ha.2; omega⟩
          have hal : a ≠ l := fun z => by have := ha.2; rw [z] at this; omega
          have haq : a ≠ q := fun z => by have := ha.2; rw [z] at this; omega
          intro w hw hx
          have sa := hist_small hn5 (by omega) hok (a := a) (by have := ho.1; omega)
          have a1 := hb_and sa.2.2 sl.2.2 hw (hist_apartAt hn5 (by omega) hok (by omega) ho hol hal) hx
          have a2 := hb_and sa.2.2 sq.2.2 hw (hist_apartAt hn5 (by omega) hok (by omega) ho hoq haq) hx
          have fr : F (51 + w) = N (51 + w) ∧ F (51 + w + 5) = N (51 + w + 5) := by
            refine ⟨m5 _ (by omega) (fun b hb hbx => ⟨fun z => ?_, fun z => ?_⟩), m5 _ (by omega) (fun b hb hbx => ⟨fun z => ?_, fun z => ?_⟩)⟩
            · have : b = w := by omega
              subst this; exact hbx.elim a1 a2
            · omega
            · omega
            · have : b = w := by omega
              subst this; exact hbx.elim a1 a2
          rw [stm_ne (by omega), stm_ne (by omega), fr.1, fr.2]
          exact j2 a ho w hw hx
      · rw [upF_ne (by omega), upF_ne (by omega)]; exact j4 i hi
      · by_cases e : j = k
        · subst e
          refine ⟨by rw [stm_self, upF_self], N, F, fun z hz => j0 z (by omega) (by omega) (fun w hw => by omega), ?_, ?_, ?_, ?_⟩
          · rw [hl, upF_ne (by omega), upF_ne (by omega)]; exact g1
          · rw [hq, upF_ne (by omega), upF_ne (by omega)]; exact g2
          · rw [hl, hq, upF_ne (by omega), upF_ne (by omega), upF_self]; exact hF
          · rw [upF_self, upF_self]
            intro w hw hx
            have := m4 w hw (by rw [hkid.2.2.2.2.1] at hx; exact (hb_or sl.2.2 sq.2.2 hw).mp hx)
            exact ⟨this.1, fun c hc => ⟨rfl, this.2 c hc⟩⟩
        · have := j3 j h0 (by omega)
          refine ⟨?_, mrgW_upd hn5 hlen hok h0 (by omega) (by omega) this.2⟩
          rw [stm_off e, m5 19 (by omega) (fun a ha _ => by omega), upF_ne e]; exact this.1
theorem s_mu35 {D : Nat → Nat → Int32} {sp : Bool} (M : Mem) {n : Nat} {h : Hist} {ln : Nat → Nat} (hn : M 0 7 = nI n) (hn1 : 1 ≤ n) (hn5 : n ≤ 5) (hlen : h.length + 1 = n) (hok : okH n h) (hT : clT D sp n h M) (hL : (M 0 5).toNatClampNeg = 35) (hd : dataOK M 24) (hw : ∀ i, i < n → 1 ≤ ln i ∧ ln i ≤ 12 ∧ M (51 + i) 1 = nI (ln i) ∧ ∀ c, c < ln i → M (51 + i + 5) c = M (41 + i + 5) c ∧ ∃ a, a < 4 ∧ M (41 + i + 5) c = nI a) : Spec mX6_mergeUpTheTree [.ref 0] M (muP M 51 n h ln) := by
  refine Spec.of (by decide) (by simp [Value.category]) (Nat.le_of_ble_eq_true rfl) ?_
  refine blk 6 [(.aload_n 0, 0, 0, 0), (.getfield 67, 6, 7, 0), (.istore_n 1, 0, 0, 0)] [] (by decide +kernel) rfl (pc' := 5) (ls' := [some (.ref 0), some (.int (M 0 7)), none, none]) (st' := []) (M' := M) rfl ⟨trivial, rfl, trivial, trivial⟩ ?_
  refine G.sub (ls' := [some (.ref 0), some (.int (nI n)), none, none]) ?_ ⟨rfl, congrArg (fun z => some (Value.int z)) hn, trivial⟩
  refine l_mu35 hn1 hn5 hlen hok hT hL hd _ n M ln (fun a w c => M (41 + w + 5) c) (fun _ => 0) rfl (Nat.le_refl n) (by omega) (fun _ _ _ _ => rfl) (fun a ha => by rw [(hist_leaf hn5 (by omega) hok ha).2]; exact ⟨(hw a ha).1, by have := (hw a ha).2.1; omega⟩) (fun a ha w hw5 hx => ?_) (fun i hi => ⟨rfl, fun c hc => rfl⟩) (fun j h0 hj => by omega)
  have e1 := (hist_leaf hn5 (show h.length < n by omega) hok ha.1).1
  have han : a < n := ha.1
  rw [e1, ← bit_nI (by omega)] at hx
  have e := (hb_bit_ne (by omega) hw5).mp hx
  subst e
  exact ⟨(hw w ha.1).2.2.1, fun c hc => ⟨((hw w ha.1).2.2.2 c hc).1, Or.inr ((hw w ha.1).2.2.2 c hc).2⟩⟩
theorem l_mu37 {D : Nat → Nat → Int32} {sp : Bool} {M : Mem} {n : Nat} {h : Hist} {ln : Nat → Nat} (hn1 : 1 ≤ n) (hn5 : n ≤ 5) (hlen : h.length + 1 = n) (hok : okH n h) (hT : clT D sp n h M) (hL : (M 0 5).toNatClampNeg = 37) (hd : dataOK M 24) : ∀ d k N (wd : Nat → Nat) (ce : Nat → Nat → Nat → Int32) (wt : Nat → Int32), d = n + h.length - k → n ≤ k → k ≤ n + h.length → (∀ z, z < 4 ∨ 15 < z → z ≠ 19 → (∀ w, w < 5 → z ≠ 61 + w ∧ z ≠ 61 + w + 5) → N z = M z) → (∀ a, a < k → 1 ≤ wd a ∧ wd a ≤ 12 * sizF n h a) → (∀ a, opnAt n h k a → grpW N 61 n h a (wd a) (ce a)) → (∀ i, i < n → wd i = ln i ∧ ∀ c, c < ln i → ce i i c = M (41 + i + 5) c) → (∀ j, n ≤ j → j < k → N 19 j = wt j ∧ mrgW M 61 n h wd ce wt j) → G mX6_mergeUpTheTree 5 [some (.ref 0), some (.int (nI k)), none, none] [] N (muP M 61 n h ln) := by
  intro d
  induction d using Nat.strongRecOn with
  | ind d ih =>
    intro k N wd ce wt hdd hk0 hk1 j0 j1 j2 j4 j3
    have hn10 : N 16 10 = nI (n + h.length) := by rw [j0 16 (by omega) (by omega) (fun w hw => by omega)]; exact hT.2.1
    have hLN : (N 0 5).toNatClampNeg = 37 := by rw [j0 0 (by omega) (by omega) (fun w hw => by omega)]; exact hL
    refine blk 6 [(.iload_n 1, 0, 0, 0), (.aload_n 0, 0, 0, 0), (.getfield 41, 6, 4, 0), (.getfield 188, 5, 10, 0)] [] (by decide +kernel) rfl (pc' := 13) (ls' := [some (.ref 0), some (.int (nI k)), none, none]) (st' := [.int (N 16 10), .int (nI k)]) (M' := N) rfl ⟨trivial, trivial, rfl, rfl, trivial⟩ ?_
    refine g_icmp_ge (off := 74) (tgt := 87) (by decide +kernel) (by decide) (fun c1 => ?_) (fun c1 => ?_)
    · have nc1 : (n + h.length) ≤ k := (nI_leI (by omega) (by omega)).mp (by simpa only [hn10, nI_add, pk_mul, nI_s1, n0_lit] using c1)
      have e : k = n + h.length := by omega
      subst e
      refine g_return (by decide +kernel) rfl ⟨rfl, wd, ce, wt, j0, j1, j4, j2 _ ⟨by omega, ?_⟩, j3⟩
      have := hist_par hn5 (show h.length < n by omega) hok (a := n + h.length - 1) (by omega)
      omega
    · have nc1 : k < (n + h.length) := by
        have z : ¬ nI (n + h.length) ≤ nI k := by simpa only [hn10, nI_add, pk_mul, nI_s1, n0_lit] using c1
        rw [nI_leI (by omega) (by omega)] at z
        omega
      have hkid := hist_ch hn5 (show h.length < n by omega) hok (a := k) hk0 (by omega)
      have hsz := hist_sz hn5 (show h.length < n by omega) hok (k := k) hk0 (by omega)
      obtain ⟨l, hl⟩ : ∃ l, (kidF n h k).1 = l := ⟨_, rfl⟩
      obtain ⟨q, hq⟩ : ∃ q, (kidF n h k).2 = q := ⟨_, rfl⟩
      rw [hl, hq] at hkid hsz
      have hkid1 := hkid.1
      have hkid2 := hkid.2.1
      have hkid3 := hkid.2.2.1
      have hkid4 := hkid.2.2.2.1
      have sl := hist_small hn5 (show h.length < n by omega) hok (a := l) (by omega)
      have sq := hist_small hn5 (show h.length < n by omega) hok (a := q) (by omega)
      have hdis := hkid.2.2.2.2.2
      have hol : opnAt n h k l := ⟨by omega, Or.inr (by omega)⟩
      have hoq : opnAt n h k q := ⟨by omega, Or.inr (by omega)⟩
      have g1 := j2 l hol
      have g2 := j2 q hoq
      have hroom := room_ok (j1 l (by omega)).2 (j1 q (by omega)).2 hsz.2.1 hsz.2.2.1 (by omega)
      have hcP : ∀ a k, a < 5 → ¬ hb (nI (mskF n h l)) a = 0 → k < wd l → okc (N (61 + a + 5) k) := fun a k ha hx hk => by rw [((g1 a ha hx).2 k hk).1]; exact ((g1 a ha hx).2 k hk).2
      have hcQ : ∀ a k, a < 5 → ¬ hb (nI (mskF n h q)) a = 0 → k < wd q → okc (N (61 + a + 5) k) := fun a k ha hx hk => by rw [((g2 a ha hx).2 k hk).1]; exact ((g2 a ha hx).2 k hk).2
      have nz : ∀ z, z < 4 ∨ (15 < z ∧ z < 26 ∧ z ≠ 19) → N z = M z := fun z hz => j0 z (by omega) (by omega) (fun w hw => by omega)
      have hl17 : N 17 k = nI l := by rw [nz 17 (by omega), (hT.2.2.2.2.1 k hk0 (by omega)).1, hl]
      have hq18 : N 18 k = nI q := by rw [nz 18 (by omega), (hT.2.2.2.2.1 k hk0 (by omega)).2, hq]
      have hm1 : N 20 l = nI (mskF n h l) := by rw [nz 20 (by omega)]; exact (hT.2.2.2.1 l (by omega)).1
      have hm2 : N 20 q = nI (mskF n h q) := by rw [nz 20 (by omega)]; exact (hT.2.2.2.1 q (by omega)).1
      have hdN : dataOK N 24 := by unfold dataOK; rw [nz 24 (by omega), nz 3 (by omega), nz 2 (by omega)]; exact hd
      refine blk 6 [(.aload_n 0, 0, 0, 0), (.getfield 41, 6, 4, 0), (.getfield 185, 5, 3, 0), (.aload_n 0, 0, 0, 0), (.getfield 41, 6, 4, 0), (.getfield 169, 5, 0, 0), (.iload_n 1, 0, 0, 0), (.iaload, 0, 0, 0), (.iaload, 0, 0, 0), (.istore_n 2, 0, 0, 0), (.aload_n 0, 0, 0, 0), (.getfield 41, 6, 4, 0), (.getfield 185, 5, 3, 0), (.aload_n 0, 0, 0, 0), (.getfield 41, 6, 4, 0), (.getfield 172, 5, 1, 0), (.iload_n 1, 0, 0, 0), (.iaload, 0, 0, 0), (.iaload, 0, 0, 0), (.istore_n 3, 0, 0, 0), (.aload_n 0, 0, 0, 0), (.getfield 41, 6, 4, 0), (.getfield 175, 5, 2, 0), (.iload_n 1, 0, 0, 0), (.aload_n 0, 0, 0, 0), (.getfield 34, 6, 3, 0), (.aload_n 0, 0, 0, 0), (.getfield 48, 6, 5, 0)] [k, l, k, q] (by decide +kernel) rfl (pc' := 68) (ls' := [some (.ref 0), some (.int (nI k)), some (.int (N 20 l)), some (.int (N 20 q))]) (st' := [.ref ((N 0 5).toNatClampNeg), .ref 4, .int (nI k), .ref 19]) (M' := N) rfl ⟨trivial, rfl, rfl, trivial, rfl, rfl, trivial, ⟨rfl, (by show _ < 9; omega)⟩, ⟨hl17, (by show _ < 9; omega)⟩, trivial, trivial, rfl, rfl, trivial, rfl, rfl, trivial, ⟨rfl, (by show _ < 9; omega)⟩, ⟨hq18, (by show _ < 9; omega)⟩, trivial, trivial, rfl, rfl, trivial, trivial, rfl, trivial, rfl, trivial⟩ ?_
      rw [show (N 0 5).toNatClampNeg = 37 from hLN]
      refine blk 6 [(.iload_n 2, 0, 0, 0), (.iload_n 3, 0, 0, 0), (.aload_n 0, 0, 0, 0), (.getfield 41, 6, 4, 0), (.getfield 178, 5, 7, 0)] [] (by decide +kernel) rfl (pc' := 77) (ls' := [some (.ref 0), some (.int (nI k)), some (.int (N 20 l)), some (.int (N 20 q))]) (st' := [.ref 24, .int (N 20 q), .int (N 20 l), .ref 37, .ref 4, .int (nI k), .ref 19]) (M' := N) rfl ⟨trivial, trivial, trivial, rfl, rfl, trivial⟩ ?_
      rw [hm1, hm2]
      refine g_callV (s_unite37 N (P := nI (mskF n h l)) (Q := nI (mskF n h q)) (v := 24) (p := wd l) (q := wd q) (by decide) (by decide) hroom.1 hroom.2.1 hroom.2.2.1 hroom.2.2.2 (fun a ha hx => (g1 a ha hx).1) (fun a ha hx => (g2 a ha hx).1) (fun a ha => hb_and sl.2.2 sq.2.2 ha hdis) hcP hcQ (hist_some hn5 (by omega) hok (by omega)) (hist_some hn5 (by omega) hok (by omega)) (fun R hR => uR_bnd hdN hR)) ok_X6_mergeUpTheTree_X1_unite (by decide +kernel) rfl (c := 1) rfl (by decide) rfl (Nat.le_of_ble_eq_true rfl) (fun r F hF => ?_) rfl
      obtain ⟨x, m, hr, m1, m2, m3, m4, m5⟩ := uni_ok hcP hcQ hF
      rw [hr] at hF
      rw [hr]
      show G _ 80 [some (.ref 0), some (.int (nI k)), some (.int (nI (mskF n h l))), some (.int (nI (mskF n h q)))] [.int x, .int (nI k), .ref 19] F _
      refine blk 6 [(.iastore, 0, 0, 0), (.iinc 1 1, 0, 0, (nI 1)), (.goto (-79), 5, 0, 0)] [k] (by decide +kernel) rfl (pc' := 5) (ls' := [some (.ref 0), some (.int (nI k + nI 1)), some (.int (nI (mskF n h l))), some (.int (nI (mskF n h q)))]) (st' := []) (M' := stm F 19 k x) rfl ⟨⟨rfl, (by show _ < 9; omega), by decide⟩, trivial, trivial, trivial⟩ ?_
      refine G.sub (ls' := [some (.ref 0), some (.int (nI (k + 1))), none, none]) ?_ ⟨rfl, congrArg (fun z => some (Value.int z)) (by simp only [nI_add, nI_s1]), trivial⟩
      refine ih (d - 1) (by omega) (k + 1) _ (upF wd k m) (upF ce k (fun w c => F (61 + w + 5) c)) (upF wt k x) (by omega) (by omega) (by omega) (fun z hz h19 hw => ?_) (fun a ha => ?_) (fun a ha => ?_) (fun i hi => ?_) (fun j h0 hj => ?_)
      · rw [stm_ne h19, m5 z hz (fun a ha _ => hw a ha)]; exact j0 z hz h19 hw
      · by_cases e : a = k
        · subst e; rw [upF_self]; have := j1 l (by omega); have := j1 q (by omega); omega
        · rw [upF_ne e]; exact j1 a (by omega)
      · by_cases e : a = k
        · subst e
          rw [upF_self, upF_self]
          intro w hw hx
          rw [stm_ne (by omega), stm_ne (by omega)]
          have := m4 w hw (by rw [hkid.2.2.2.2.1] at hx; exact (hb_or sl.2.2 sq.2.2 hw).mp hx)
          exact ⟨this.1, fun c hc => ⟨rfl, this.2 c hc⟩⟩
        · rw [upF_ne e, upF_ne e]
          have ho : opnAt n h k a := ⟨by have := ha.1; omega, by have := ha.2; omega⟩
          have hal : a ≠ l := fun z => by have := ha.2; rw [z] at this; omega
          have haq : a ≠ q := fun z => by have := ha.2; rw [z] at this; omega
          intro w hw hx
          have sa := hist_small hn5 (by omega) hok (a := a) (by have := ho.1; omega)
          have a1 := hb_and sa.2.2 sl.2.2 hw (hist_apartAt hn5 (by omega) hok (by omega) ho hol hal) hx
          have a2 := hb_and sa.2.2 sq.2.2 hw (hist_apartAt hn5 (by omega) hok (by omega) ho hoq haq) hx
          have fr : F (61 + w) = N (61 + w) ∧ F (61 + w + 5) = N (61 + w + 5) := by
            refine ⟨m5 _ (by omega) (fun b hb hbx => ⟨fun z => ?_, fun z => ?_⟩), m5 _ (by omega) (fun b hb hbx => ⟨fun z => ?_, fun z => ?_⟩)⟩
            · have : b = w := by omega
              subst this; exact hbx.elim a1 a2
            · omega
            · omega
            · have : b = w := by omega
              subst this; exact hbx.elim a1 a2
          rw [stm_ne (by omega), stm_ne (by omega), fr.1, fr.2]
          exact j2 a ho w hw hx
      · rw [upF_ne (by omega), upF_ne (by omega)]; exact j4 i hi
      · by_cases e : j = k
        · subst e
          refine ⟨by rw [stm_self, upF_self], N, F, fun z hz => j0 z (by omega) (by omega) (fun w hw => by omega), ?_, ?_, ?_, ?_⟩
          · rw [hl, upF_ne (by omega), upF_ne (by omega)]; exact g1
          · rw [hq, upF_ne (by omega), upF_ne (by omega)]; exact g2
          · rw [hl, hq, upF_ne (by omega), upF_ne (by omega), upF_self]; exact hF
          · rw [upF_self, upF_self]
            intro w hw hx
            have := m4 w hw (by rw [hkid.2.2.2.2.1] at hx; exact (hb_or sl.2.2 sq.2.2 hw).mp hx)
            exact ⟨this.1, fun c hc => ⟨rfl, this.2 c hc⟩⟩
        · have := j3 j h0 (by omega)
          refine ⟨?_, mrgW_upd hn5 hlen hok h0 (by omega) (by omega) this.2⟩
          rw [stm_off e, m5 19 (by omega) (fun a ha _ => by omega), upF_ne e]; exact this.1
theorem s_mu37 {D : Nat → Nat → Int32} {sp : Bool} (M : Mem) {n : Nat} {h : Hist} {ln : Nat → Nat} (hn : M 0 7 = nI n) (hn1 : 1 ≤ n) (hn5 : n ≤ 5) (hlen : h.length + 1 = n) (hok : okH n h) (hT : clT D sp n h M) (hL : (M 0 5).toNatClampNeg = 37) (hd : dataOK M 24) (hw : ∀ i, i < n → 1 ≤ ln i ∧ ln i ≤ 12 ∧ M (61 + i) 1 = nI (ln i) ∧ ∀ c, c < ln i → M (61 + i + 5) c = M (41 + i + 5) c ∧ ∃ a, a < 4 ∧ M (41 + i + 5) c = nI a) : Spec mX6_mergeUpTheTree [.ref 0] M (muP M 61 n h ln) := by
  refine Spec.of (by decide) (by simp [Value.category]) (Nat.le_of_ble_eq_true rfl) ?_
  refine blk 6 [(.aload_n 0, 0, 0, 0), (.getfield 67, 6, 7, 0), (.istore_n 1, 0, 0, 0)] [] (by decide +kernel) rfl (pc' := 5) (ls' := [some (.ref 0), some (.int (M 0 7)), none, none]) (st' := []) (M' := M) rfl ⟨trivial, rfl, trivial, trivial⟩ ?_
  refine G.sub (ls' := [some (.ref 0), some (.int (nI n)), none, none]) ?_ ⟨rfl, congrArg (fun z => some (Value.int z)) hn, trivial⟩
  refine l_mu37 hn1 hn5 hlen hok hT hL hd _ n M ln (fun a w c => M (41 + w + 5) c) (fun _ => 0) rfl (Nat.le_refl n) (by omega) (fun _ _ _ _ => rfl) (fun a ha => by rw [(hist_leaf hn5 (by omega) hok ha).2]; exact ⟨(hw a ha).1, by have := (hw a ha).2.1; omega⟩) (fun a ha w hw5 hx => ?_) (fun i hi => ⟨rfl, fun c hc => rfl⟩) (fun j h0 hj => by omega)
  have e1 := (hist_leaf hn5 (show h.length < n by omega) hok ha.1).1
  have han : a < n := ha.1
  rw [e1, ← bit_nI (by omega)] at hx
  have e := (hb_bit_ne (by omega) hw5).mp hx
  subst e
  exact ⟨(hw w ha.1).2.2.1, fun c hc => ⟨((hw w ha.1).2.2.2 c hc).1, Or.inr ((hw w ha.1).2.2.2 c hc).2⟩⟩
