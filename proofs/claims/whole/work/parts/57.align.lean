/-! the class's align -/
def upd2 (dd : Nat → Nat → Nat) (i j v : Nat) : Nat → Nat → Nat := fun a b => if (a = i ∧ b = j) ∨ (a = j ∧ b = i) then v else dd a b
/-- the tags that align may change -/
def alFr (M N : Mem) : Prop := (∀ f, f ≠ 11 → N 0 f = M 0 f) ∧ ∀ z, (z = 1 ∨ z = 2 ∨ z = 3 ∨ (34 < z ∧ z < 51) ∨ 70 < z) → N z = M z
def ddOK (M : Mem) (n : Nat) (ln : Nat → Nat) (dd : Nat → Nat → Nat) : Prop := (∀ a b, dd a b = dd b a) ∧ (∀ a b, dd a b ≤ 1000) ∧ ∀ a b, a < b → b < n → distW M a b (ln a) (ln b) (dd a b)
def spOf (x : Int32) : Bool := decide (¬ x = 0)
theorem sp_iff {x : Int32} : x = 0 ↔ spOf x = false := by
  unfold spOf
  exact ⟨fun z => decide_eq_false (fun y => y z), fun z => Decidable.not_not.mp (of_decide_eq_false z)⟩
def alP (M : Mem) (B n : Nat) (ln : Nat → Nat) : Option Value → Mem → Prop := fun r N => ∃ (dd : Nat → Nat → Nat) (h : Hist) (ws : Nat → Nat) (wd : Nat → Nat) (ce : Nat → Nat → Nat → Int32) (wt : Nat → Int32),
  ddOK M n ln dd ∧ h.length + 1 = n ∧ picked (dI dd) (spOf (M 0 9)) n h ∧ clT (dI dd) (spOf (M 0 9)) n h N ∧ wtOK n ws ∧ (∀ i, i < n → N 24 i = nI (ws i) ∧ wtF (dI dd) (spOf (M 0 9)) n h (M 0 10) i = nI (ws i)) ∧
  (∀ i, i < 5 → n ≤ i → N 24 i = M 24 i) ∧ (∀ a, a < n + h.length → 1 ≤ wd a ∧ wd a ≤ 12 * sizF n h a) ∧ (∀ i, i < n → wd i = ln i ∧ ∀ c, c < ln i → ce i i c = M (41 + i + 5) c) ∧ grpW N B n h (n + h.length - 1) (wd (n + h.length - 1)) (ce (n + h.length - 1)) ∧
  (∀ j, n ≤ j → j < n + h.length → N 19 j = wt j ∧ mrgW N B n h wd ce wt j) ∧ r = some (.int (nI (wd (n + h.length - 1)))) ∧ N 0 11 = nI 1 ∧ alFr M N
theorem mrgW_congr {M N : Mem} {B n : Nat} {h : Hist} {wd : Nat → Nat} {ce : Nat → Nat → Nat → Int32} {wt : Nat → Int32} {k : Nat} (h2 : N 2 = M 2) (h3 : N 3 = M 3) (h24 : N 24 = M 24) (hm : mrgW M B n h wd ce wt k) : mrgW N B n h wd ce wt k := by
  obtain ⟨C, F, c1, c2⟩ := hm
  exact ⟨C, F, fun z hz => by rcases hz with rfl | rfl | rfl; rw [h2]; exact c1 2 (by omega); rw [h3]; exact c1 3 (by omega); rw [h24]; exact c1 24 (by omega), c2⟩
theorem stB_get {M : Mem} {i j : Nat} {v : Int32} (hij : i ≠ j) (a b : Nat) : stB M i j v (26 + a) b = if (a = i ∧ b = j) ∨ (a = j ∧ b = i) then v else M (26 + a) b := by
  unfold stB
  by_cases e1 : a = j
  · subst e1
    by_cases e2 : b = i
    · subst e2; rw [stm_self, if_pos (Or.inr ⟨rfl, rfl⟩)]
    · rw [stm_off e2, stm_ne (by omega), if_neg (by omega)]
  · rw [stm_ne (by omega)]
    by_cases e2 : a = i
    · subst e2
      by_cases e3 : b = j
      · subst e3; rw [stm_self, if_pos (Or.inl ⟨rfl, rfl⟩)]
      · rw [stm_off e3, if_neg (by omega)]
    · rw [stm_ne (by omega), if_neg (by omega)]
theorem root_has {n : Nat} {h : Hist} (hn1 : 1 ≤ n) (hn5 : n ≤ 5) (hl : h.length + 1 = n) (hok : okH n h) {w : Nat} (hw : w < 5) : ¬ hb (nI (mskF n h (n + h.length - 1))) w = 0 ↔ w < n := by
  rw [show n + h.length - 1 = 2 * n - 2 by omega, (hist_top hn5 hl hok).1]
  exact (by decide +kernel : ∀ n, n < 6 → ∀ w, w < 5 → (¬ hb (nI (2 ^ n - 1)) w = 0 ↔ w < n)) n (by omega) w hw
theorem l_al4_35 {D : Nat → Nat → Int32} {sp : Bool} {N : Mem} {n : Nat} {h : Hist} {ln : Nat → Nat} {Post : Option Value → Mem → Prop} (hn : N 0 7 = nI n) (hn1 : 1 ≤ n) (hn5 : n ≤ 5) (hlen : h.length + 1 = n) (hok : okH n h) (hT : clT D sp n h N) (hL : (N 0 5).toNatClampNeg = 35) (hd : dataOK N 24) (hw : (∀ i, i < n → 1 ≤ ln i ∧ ln i ≤ 12 ∧ N (51 + i) 1 = nI (ln i) ∧ ∀ c, c < ln i → N (51 + i + 5) c = N (41 + i + 5) c ∧ ∃ a, a < 4 ∧ N (41 + i + 5) c = nI a)) (hp : ∀ N1, muP N 51 n h ln none N1 → ∀ W, N1 51 1 = nI W → Post (some (.int (nI W))) (stm N1 0 11 (nI 1))) : G mX6_align 125 [some (.ref 0), none, none] [] N Post := by
  refine blk 6 [(.aload_n 0, 0, 0, 0)] [] (by decide +kernel) rfl (pc' := 126) (ls' := [some (.ref 0), none, none]) (st' := [.ref 0]) (M' := N) rfl ⟨trivial, trivial⟩ ?_
  refine g_callV (s_mu35 N hn hn1 hn5 hlen hok hT hL hd hw) ok_X6_align_X6_mergeUpTheTree (by decide +kernel) rfl (c := 6) rfl (by decide) rfl (Nat.le_of_ble_eq_true rfl) (fun r N1 hN => ?_) rfl
  have hN0 := hN
  obtain ⟨hr, wd, ce, wt, q0, q1, q4, q2, q3⟩ := hN
  rw [hr] at hN0 ⊢
  have hW : N1 51 1 = nI (wd (n + h.length - 1)) := (q2 0 (by omega) ((root_has hn1 hn5 hlen hok (by omega)).mpr (by omega))).1
  have hL1 : (N1 0 5).toNatClampNeg = 35 := by rw [q0 0 (by omega) (by omega) (fun w hw => by omega)]; exact hL
  show G _ 129 [some (.ref 0), none, none] [] N1 _
  refine blk 6 [(.aload_n 0, 0, 0, 0), (.iconst 1, 0, 0, (nI 1)), (.putfield 74, 6, 11, 0), (.aload_n 0, 0, 0, 0)] [] (by decide +kernel) rfl (pc' := 135) (ls' := [some (.ref 0), none, none]) (st' := [.ref 0]) (M' := stm N1 0 11 (nI 1)) rfl ⟨trivial, trivial, ⟨rfl, Or.inr rfl⟩, trivial, trivial⟩ ?_
  refine g_callV (s_cols35 _ (by rw [stm_off (by decide)]; exact hL1)) ok_X6_align_X6_columns (by decide +kernel) rfl (c := 6) rfl (by decide) rfl (Nat.le_of_ble_eq_true rfl) (fun r M' h => ?_) rfl
  obtain ⟨hr, hM⟩ := h
  rw [hr, hM]
  show G _ 138 [some (.ref 0), none, none] [.int (colF (stm N1 0 11 (nI 1)) 51)] (stm N1 0 11 (nI 1)) _
  have e : colF (stm N1 0 11 (nI 1)) 51 = nI (wd (n + h.length - 1)) := by unfold colF; rw [stm_self, if_neg (by decide +kernel), stm_ne (by decide)]; exact hW
  rw [e]
  exact g_ireturn (by decide +kernel) rfl rfl (hp N1 hN0 _ hW)
theorem l_al3_35 {N : Mem} {n : Nat} {ln : Nat → Nat} {Post : Option Value → Mem → Prop} (hn : N 0 7 = nI n) (hn5 : n ≤ 5) (hL : (N 0 5).toNatClampNeg = 35) (hwd : ∀ i, i < n → wordOK N i (ln i)) (hp : ∀ N', (∀ a, a < n → N' (51 + a) 1 = nI (ln a) ∧ ∀ c, c < ln a → N' (51 + a + 5) c = N (41 + a + 5) c) → (∀ z, (∀ a, a < 5 → z ≠ 51 + a ∧ z ≠ 51 + a + 5) → N' z = N z) → G mX6_align 125 [some (.ref 0), none, none] [] N' Post) : ∀ d i N', d = n - i → i ≤ n → (∀ a, a < i → N' (51 + a) 1 = nI (ln a) ∧ ∀ c, c < ln a → N' (51 + a + 5) c = N (41 + a + 5) c) → (∀ z, (∀ a, a < 5 → z ≠ 51 + a ∧ z ≠ 51 + a + 5) → N' z = N z) → G mX6_align 93 [some (.ref 0), some (.int (nI i)), none] [] N' Post := by
  intro d
  induction d using Nat.strongRecOn with
  | ind d ih =>
    intro i N' hd hi j1 j2
    have hnN : N' 0 7 = nI n := by rw [j2 0 (fun a ha => by omega)]; exact hn
    have hLN : (N' 0 5).toNatClampNeg = 35 := by rw [j2 0 (fun a ha => by omega)]; exact hL
    refine blk 6 [(.iload_n 1, 0, 0, 0), (.aload_n 0, 0, 0, 0), (.getfield 67, 6, 7, 0)] [] (by decide +kernel) rfl (pc' := 98) (ls' := [some (.ref 0), some (.int (nI i)), none]) (st' := [.int (N' 0 7), .int (nI i)]) (M' := N') rfl ⟨trivial, trivial, rfl, trivial⟩ ?_
    refine g_icmp_ge (off := 27) (tgt := 125) (by decide +kernel) (by decide) (fun c1 => ?_) (fun c1 => ?_)
    · have nc1 : n ≤ i := (nI_leI (by omega) (by omega)).mp (by simpa only [hnN, nI_add, pk_mul, nI_s1, n0_lit] using c1)
      have e : i = n := by omega
      subst e
      refine G.sub (ls' := [some (.ref 0), none, none]) ?_ ⟨rfl, trivial⟩
      exact hp N' j1 j2
    · have nc1 : i < n := by
        have z : ¬ nI n ≤ nI i := by simpa only [hnN, nI_add, pk_mul, nI_s1, n0_lit] using c1
        rw [nI_leI (by omega) (by omega)] at z
        omega
      have hl1 := (hwd i (by omega)).2.1
      have hl2 := (hwd i (by omega)).2.2.1
      refine blk 6 [(.aload_n 0, 0, 0, 0), (.getfield 48, 6, 5, 0)] [] (by decide +kernel) rfl (pc' := 105) (ls' := [some (.ref 0), some (.int (nI i)), none]) (st' := [.ref ((N' 0 5).toNatClampNeg)]) (M' := N') rfl ⟨trivial, rfl, trivial⟩ ?_
      rw [show (N' 0 5).toNatClampNeg = 35 from hLN]
      refine blk 6 [(.getfield 120, 3, 0, 0), (.iload_n 1, 0, 0, 0), (.aaload, 0, 0, 0), (.aload_n 0, 0, 0, 0), (.getfield 11, 6, 0, 0), (.iload_n 1, 0, 0, 0), (.aaload, 0, 0, 0)] [i, i] (by decide +kernel) rfl (pc' := 116) (ls' := [some (.ref 0), some (.int (nI i)), none]) (st' := [.ref (41 + i), .ref (51 + i)]) (M' := N') rfl ⟨rfl, trivial, ⟨rfl, (by show _ < 5; omega)⟩, trivial, rfl, trivial, ⟨rfl, (by show _ < 5; omega)⟩, trivial⟩ ?_
      refine g_callV (s_copy N' (t := 51 + i) (u := 41 + i) (w := ln i) (kd51 (by omega)) (kd41 (by omega)) (by rw [j2 _ (fun a ha => by omega)]; exact (hwd i (by omega)).1) (by rw [al56 (by omega)]; omega) (by rw [al46 (by omega)]; omega) (by omega) (by omega) (kd56 (by omega)) (kd46 (by omega)) (by omega)) ok_X6_align_X2_copy (by decide +kernel) rfl (c := 2) (kd51 (by omega)) (by decide) rfl (Nat.le_of_ble_eq_true rfl) (fun r A h => ?_) (by rfl)
      obtain ⟨hr, a1, a2, a3⟩ := h
      rw [hr]
      show G _ 119 [some (.ref 0), some (.int (nI i)), none] [] A _
      refine blk 6 [(.iinc 1 1, 0, 0, (nI 1)), (.goto (-29), 93, 0, 0)] [] (by decide +kernel) rfl (pc' := 93) (ls' := [some (.ref 0), some (.int (nI i + nI 1)), none]) (st' := []) (M' := A) rfl ⟨trivial, trivial, trivial⟩ ?_
      refine G.sub (ls' := [some (.ref 0), some (.int (nI (i + 1))), none]) ?_ ⟨rfl, congrArg (fun z => some (Value.int z)) (by simp only [nI_add, nI_s1]), trivial⟩
      refine ih (d - 1) (by omega) (i + 1) A (by omega) (by omega) (fun a ha => ?_) (fun z hz => ?_)
      · by_cases e : a = i
        · subst e
          exact ⟨a1, fun c hc => by rw [a2 c hc, j2 _ (fun b hb => by omega)]⟩
        · rw [a3 _ (by omega) (by omega), a3 _ (by omega) (by omega)]; exact j1 a (by omega)
      · rw [a3 z (by have := hz i (by omega); omega) (by have := hz i (by omega); omega)]; exact j2 z hz
theorem clT_frame {D : Nat → Nat → Int32} {sp : Bool} {n : Nat} {h : Hist} {M N : Mem} (hf : ∀ z, 15 < z → z < 35 → z ≠ 24 → N z = M z) (hT : clT D sp n h M) (h9 : n + h.length ≤ 9 := by omega) : clT D sp n h N := by
  obtain ⟨t1, t2, t3, t4, t5, t6⟩ := hT
  refine ⟨?_, ?_, ?_, fun a ha => ?_, fun a h0 ha => ?_, fun a b ha hb => ?_⟩
  · rw [hf 16 (by omega) (by omega) (by omega)]; exact t1
  · rw [hf 16 (by omega) (by omega) (by omega)]; exact t2
  · rw [hf 16 (by omega) (by omega) (by omega)]; exact t3
  · rw [hf 20 (by omega) (by omega) (by omega), hf 21 (by omega) (by omega) (by omega), hf 22 (by omega) (by omega) (by omega), hf 23 (by omega) (by omega) (by omega)]; exact t4 a ha
  · rw [hf 17 (by omega) (by omega) (by omega), hf 18 (by omega) (by omega) (by omega)]; exact t5 a h0 ha
  · rw [hf (26 + a) (by omega) (by omega) (by omega)]; exact t6 a b ha hb
theorem l_al2 {D : Nat → Nat → Int32} {sp : Bool} {N : Mem} {n : Nat} {Post : Option Value → Mem → Prop} (hn1 : 1 ≤ n) (hn5 : n ≤ 5) (hT : clT D sp n [] N) (hp : ∀ h A2, h.length + 1 = n → picked D sp n h → clT D sp n h A2 → (∀ i, i < n → A2 24 i = wtF D sp n h (N 0 10) i) → (∀ i, n ≤ i → A2 24 i = N 24 i) → (∀ z, z < 16 ∨ 34 < z → A2 z = N z) → G mX6_align 93 [some (.ref 0), some (.int (nI 0)), none] [] A2 Post) : G mX6_align 73 [some (.ref 0), none, none] [] N Post := by
  refine blk 6 [(.aload_n 0, 0, 0, 0), (.getfield 41, 6, 4, 0)] [] (by decide +kernel) rfl (pc' := 77) (ls' := [some (.ref 0), none, none]) (st' := [.ref 16]) (M' := N) rfl ⟨trivial, rfl, trivial⟩ ?_
  refine g_callV (s_grow N hn1 hn5 hT) ok_X6_align_X5_grow (by decide +kernel) rfl (c := 5) rfl (by decide) rfl (Nat.le_of_ble_eq_true rfl) (fun r A hA => ?_) rfl
  obtain ⟨hr, h, g1, g2, g3, g4⟩ := hA
  rw [hr]
  have hok := picked_ok g2
  have gw : A 0 10 = N 0 10 := by rw [g4 0 (by omega)]
  show G _ 80 [some (.ref 0), none, none] [] A _
  refine blk 6 [(.aload_n 0, 0, 0, 0), (.getfield 41, 6, 4, 0), (.aload_n 0, 0, 0, 0), (.getfield 93, 6, 10, 0)] [] (by decide +kernel) rfl (pc' := 88) (ls' := [some (.ref 0), none, none]) (st' := [.int (A 0 10), .ref 16]) (M' := A) rfl ⟨trivial, rfl, trivial, rfl, trivial⟩ ?_
  refine g_callV (s_weigh A (n := n) (m := 2 * n - 2) (pa := parF n h) (wg := A 0 10) g3.1 hn5 (by rw [show 2 * n - 2 + 1 = n + h.length by omega]; exact g3.2.1) (by omega) (fun k hk => by rw [(g3.2.2.2.1 k (by omega)).2.1]; have := hist_small hn5 (show h.length < n by omega) hok (a := k) (by omega); exact fun z => absurd ((nI_eq (by omega) (by omega)).mp (z.trans nI_0.symm)) (by omega)) (fun w hw k hk _ => by rw [(g3.2.2.2.1 k (by omega)).2.2.1]; have e := (hist_top hn5 g1 hok).2 k (by omega); have := hist_par hn5 (show h.length < n by omega) hok (a := k) (by omega); exact ⟨if_neg e, by omega⟩)) ok_X6_align_X5_weigh (by decide +kernel) rfl (c := 5) rfl (by decide) rfl (Nat.le_of_ble_eq_true rfl) (fun r A2 hA => ?_) rfl
  obtain ⟨hr2, v1, v2, v3⟩ := hA
  rw [hr2]
  show G _ 91 [some (.ref 0), none, none] [] A2 _
  refine blk 6 [(.iconst 0, 0, 0, (nI 0)), (.istore_n 1, 0, 0, 0)] [] (by decide +kernel) rfl (pc' := 93) (ls' := [some (.ref 0), some (.int (nI 0)), none]) (st' := []) (M' := A2) rfl ⟨trivial, trivial, trivial⟩ ?_
  refine G.sub (ls' := [some (.ref 0), some (.int (nI 0)), none]) ?_ ⟨rfl, rfl, trivial⟩
  refine hp h A2 g1 g2 (clT_frame (fun z h1 h2 h3 => v2 z (by omega)) g3) (fun i hi => by rw [v1 i hi, clT_wg hn5 g1 hok g3 hi, gw]) (fun i h1 => by rw [v3 i h1, g4 24 (by omega)]) (fun z hz => ?_)
  rw [v2 z (by omega)]; exact g4 z (by omega)
theorem l_al4_37 {D : Nat → Nat → Int32} {sp : Bool} {N : Mem} {n : Nat} {h : Hist} {ln : Nat → Nat} {Post : Option Value → Mem → Prop} (hn : N 0 7 = nI n) (hn1 : 1 ≤ n) (hn5 : n ≤ 5) (hlen : h.length + 1 = n) (hok : okH n h) (hT : clT D sp n h N) (hL : (N 0 5).toNatClampNeg = 37) (hd : dataOK N 24) (hw : (∀ i, i < n → 1 ≤ ln i ∧ ln i ≤ 12 ∧ N (61 + i) 1 = nI (ln i) ∧ ∀ c, c < ln i → N (61 + i + 5) c = N (41 + i + 5) c ∧ ∃ a, a < 4 ∧ N (41 + i + 5) c = nI a)) (hp : ∀ N1, muP N 61 n h ln none N1 → ∀ W, N1 61 1 = nI W → Post (some (.int (nI W))) (stm N1 0 11 (nI 1))) : G mX6_align 125 [some (.ref 0), none, none] [] N Post := by
  refine blk 6 [(.aload_n 0, 0, 0, 0)] [] (by decide +kernel) rfl (pc' := 126) (ls' := [some (.ref 0), none, none]) (st' := [.ref 0]) (M' := N) rfl ⟨trivial, trivial⟩ ?_
  refine g_callV (s_mu37 N hn hn1 hn5 hlen hok hT hL hd hw) ok_X6_align_X6_mergeUpTheTree (by decide +kernel) rfl (c := 6) rfl (by decide) rfl (Nat.le_of_ble_eq_true rfl) (fun r N1 hN => ?_) rfl
  have hN0 := hN
  obtain ⟨hr, wd, ce, wt, q0, q1, q4, q2, q3⟩ := hN
  rw [hr] at hN0 ⊢
  have hW : N1 61 1 = nI (wd (n + h.length - 1)) := (q2 0 (by omega) ((root_has hn1 hn5 hlen hok (by omega)).mpr (by omega))).1
  have hL1 : (N1 0 5).toNatClampNeg = 37 := by rw [q0 0 (by omega) (by omega) (fun w hw => by omega)]; exact hL
  show G _ 129 [some (.ref 0), none, none] [] N1 _
  refine blk 6 [(.aload_n 0, 0, 0, 0), (.iconst 1, 0, 0, (nI 1)), (.putfield 74, 6, 11, 0), (.aload_n 0, 0, 0, 0)] [] (by decide +kernel) rfl (pc' := 135) (ls' := [some (.ref 0), none, none]) (st' := [.ref 0]) (M' := stm N1 0 11 (nI 1)) rfl ⟨trivial, trivial, ⟨rfl, Or.inr rfl⟩, trivial, trivial⟩ ?_
  refine g_callV (s_cols37 _ (by rw [stm_off (by decide)]; exact hL1)) ok_X6_align_X6_columns (by decide +kernel) rfl (c := 6) rfl (by decide) rfl (Nat.le_of_ble_eq_true rfl) (fun r M' h => ?_) rfl
  obtain ⟨hr, hM⟩ := h
  rw [hr, hM]
  show G _ 138 [some (.ref 0), none, none] [.int (colF (stm N1 0 11 (nI 1)) 61)] (stm N1 0 11 (nI 1)) _
  have e : colF (stm N1 0 11 (nI 1)) 61 = nI (wd (n + h.length - 1)) := by unfold colF; rw [stm_self, if_neg (by decide +kernel), stm_ne (by decide)]; exact hW
  rw [e]
  exact g_ireturn (by decide +kernel) rfl rfl (hp N1 hN0 _ hW)
theorem l_al3_37 {N : Mem} {n : Nat} {ln : Nat → Nat} {Post : Option Value → Mem → Prop} (hn : N 0 7 = nI n) (hn5 : n ≤ 5) (hL : (N 0 5).toNatClampNeg = 37) (hwd : ∀ i, i < n → wordOK N i (ln i)) (hp : ∀ N', (∀ a, a < n → N' (61 + a) 1 = nI (ln a) ∧ ∀ c, c < ln a → N' (61 + a + 5) c = N (41 + a + 5) c) → (∀ z, (∀ a, a < 5 → z ≠ 61 + a ∧ z ≠ 61 + a + 5) → N' z = N z) → G mX6_align 125 [some (.ref 0), none, none] [] N' Post) : ∀ d i N', d = n - i → i ≤ n → (∀ a, a < i → N' (61 + a) 1 = nI (ln a) ∧ ∀ c, c < ln a → N' (61 + a + 5) c = N (41 + a + 5) c) → (∀ z, (∀ a, a < 5 → z ≠ 61 + a ∧ z ≠ 61 + a + 5) → N' z = N z) → G mX6_align 93 [some (.ref 0), some (.int (nI i)), none] [] N' Post := by
  intro d
  induction d using Nat.strongRecOn with
  | ind d ih =>
    intro i N' hd hi j1 j2
    have hnN : N' 0 7 = nI n := by rw [j2 0 (fun a ha => by omega)]; exact hn
    have hLN : (N' 0 5).toNatClampNeg = 37 := by rw [j2 0 (fun a ha => by omega)]; exact hL
    refine blk 6 [(.iload_n 1, 0, 0, 0), (.aload_n 0, 0, 0, 0), (.getfield 67, 6, 7, 0)] [] (by decide +kernel) rfl (pc' := 98) (ls' := [some (.ref 0), some (.int (nI i)), none]) (st' := [.int (N' 0 7), .int (nI i)]) (M' := N') rfl ⟨trivial, trivial, rfl, trivial⟩ ?_
    refine g_icmp_ge (off := 27) (tgt := 125) (by decide +kernel) (by decide) (fun c1 => ?_) (fun c1 => ?_)
    · have nc1 : n ≤ i := (nI_leI (by omega) (by omega)).mp (by simpa only [hnN, nI_add, pk_mul, nI_s1, n0_lit] using c1)
      have e : i = n := by omega
      subst e
      refine G.sub (ls' := [some (.ref 0), none, none]) ?_ ⟨rfl, trivial⟩
      exact hp N' j1 j2
    · have nc1 : i < n := by
        have z : ¬ nI n ≤ nI i := by simpa only [hnN, nI_add, pk_mul, nI_s1, n0_lit] using c1
        rw [nI_leI (by omega) (by omega)] at z
        omega
      have hl1 := (hwd i (by omega)).2.1
      have hl2 := (hwd i (by omega)).2.2.1
      refine blk 6 [(.aload_n 0, 0, 0, 0), (.getfield 48, 6, 5, 0)] [] (by decide +kernel) rfl (pc' := 105) (ls' := [some (.ref 0), some (.int (nI i)), none]) (st' := [.ref ((N' 0 5).toNatClampNeg)]) (M' := N') rfl ⟨trivial, rfl, trivial⟩ ?_
      rw [show (N' 0 5).toNatClampNeg = 37 from hLN]
      refine blk 6 [(.getfield 120, 3, 0, 0), (.iload_n 1, 0, 0, 0), (.aaload, 0, 0, 0), (.aload_n 0, 0, 0, 0), (.getfield 11, 6, 0, 0), (.iload_n 1, 0, 0, 0), (.aaload, 0, 0, 0)] [i, i] (by decide +kernel) rfl (pc' := 116) (ls' := [some (.ref 0), some (.int (nI i)), none]) (st' := [.ref (41 + i), .ref (61 + i)]) (M' := N') rfl ⟨rfl, trivial, ⟨rfl, (by show _ < 5; omega)⟩, trivial, rfl, trivial, ⟨rfl, (by show _ < 5; omega)⟩, trivial⟩ ?_
      refine g_callV (s_copy N' (t := 61 + i) (u := 41 + i) (w := ln i) (kd61 (by omega)) (kd41 (by omega)) (by rw [j2 _ (fun a ha => by omega)]; exact (hwd i (by omega)).1) (by rw [al66 (by omega)]; omega) (by rw [al46 (by omega)]; omega) (by omega) (by omega) (kd66 (by omega)) (kd46 (by omega)) (by omega)) ok_X6_align_X2_copy (by decide +kernel) rfl (c := 2) (kd61 (by omega)) (by decide) rfl (Nat.le_of_ble_eq_true rfl) (fun r A h => ?_) (by rfl)
      obtain ⟨hr, a1, a2, a3⟩ := h
      rw [hr]
      show G _ 119 [some (.ref 0), some (.int (nI i)), none] [] A _
      refine blk 6 [(.iinc 1 1, 0, 0, (nI 1)), (.goto (-29), 93, 0, 0)] [] (by decide +kernel) rfl (pc' := 93) (ls' := [some (.ref 0), some (.int (nI i + nI 1)), none]) (st' := []) (M' := A) rfl ⟨trivial, trivial, trivial⟩ ?_
      refine G.sub (ls' := [some (.ref 0), some (.int (nI (i + 1))), none]) ?_ ⟨rfl, congrArg (fun z => some (Value.int z)) (by simp only [nI_add, nI_s1]), trivial⟩
      refine ih (d - 1) (by omega) (i + 1) A (by omega) (by omega) (fun a ha => ?_) (fun z hz => ?_)
      · by_cases e : a = i
        · subst e
          exact ⟨a1, fun c hc => by rw [a2 c hc, j2 _ (fun b hb => by omega)]⟩
        · rw [a3 _ (by omega) (by omega), a3 _ (by omega) (by omega)]; exact j1 a (by omega)
      · rw [a3 z (by have := hz i (by omega); omega) (by have := hz i (by omega); omega)]; exact j2 z hz
