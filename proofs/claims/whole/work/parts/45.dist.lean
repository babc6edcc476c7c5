/-! distance, of both -/
theorem min_nI {a b : Nat} (ha : a < 1000) (hb : b < 1000) : (if nI b < nI a then nI b else nI a) = nI (min a b) := by
  by_cases e : b < a
  · rw [if_pos ((nI_ltI (by omega) (by omega)).mpr e), Nat.min_eq_right (by omega)]
  · rw [if_neg (fun z => e ((nI_ltI (by omega) (by omega)).mp z)), Nat.min_eq_left (by omega)]
theorem max_nI {a b : Nat} (ha : a < 1000) (hb : b < 1000) : (if nI a < nI b then nI b else nI a) = nI (max a b) := by
  by_cases e : a < b
  · rw [if_pos ((nI_ltI (by omega) (by omega)).mpr e), Nat.max_eq_right (by omega)]
  · rw [if_neg (fun z => e ((nI_ltI (by omega) (by omega)).mp z)), Nat.max_eq_left (by omega)]
/-- i and j, and which of them is the lower -/
def ord2 (i j lo hi li lj a b : Nat) : Prop := (i < j ∧ lo = i ∧ hi = j ∧ a = li ∧ b = lj) ∨ (j < i ∧ lo = j ∧ hi = i ∧ a = lj ∧ b = li)
def cdP (M : Mem) (B i j lo hi li lj a b : Nat) : Option Value → Mem → Prop := fun r F => ∃ d, r = some (.int d) ∧ ((M 0 8 = 0 ∧ ∃ r0 n, motP M B lo hi a b r0 F ∧ F (B + i) 1 = nI n ∧ n ≤ 24 ∧ d = nI 1000 - shareF (psum (sameF F (B + i) (B + j)) n) (nI (min li lj))) ∨ (¬ M 0 8 = 0 ∧ F = M ∧ d = nI 1000 - shareF (psum (fun x => psum (minF M (41 + i) (41 + j) li lj x) 4) 4) (nI (min li lj) - nI 1)))
def msmF (F : Mem) (lo hi : Nat) : Nat → Int32 := fun k => if ¬ F 92 (60 * lo + k) = -1 ∧ F 92 (60 * lo + k) = F 92 (60 * hi + k) then 1 else 0
def mdP (M : Mem) (i j lo hi li lj a b : Nat) : Option Value → Mem → Prop := fun r F => ∃ d, r = some (.int d) ∧ ((M 72 8 = 0 ∧ ∃ r0 n, mmwP M lo hi a b r0 F ∧ F 72 31 = nI n ∧ n ≤ 24 ∧ d = nI 1000 - nI 1000 * psum (msmF F lo hi) n / nI (min li lj)) ∨ (¬ M 72 8 = 0 ∧ F = M ∧ d = if min li lj = 1 then nI 1000 else nI 1000 - nI 1000 * psum (shF M i j li lj) 16 / (nI (min li lj) - nI 1)))
theorem s_dist1_35 (M : Mem) {i j lo hi li lj a b : Nat} (htw : twoB (M 0 7) (nI i) (nI j) = true) (hT : (M 0 6).toNatClampNeg = 35) (hi5 : i < 5) (hj5 : j < 5) (ho : ord2 i j lo hi li lj a b) (hi1 : wordOK M i li) (hj1 : wordOK M j lj) (h97 : ∀ a, a < 5 → M 97 a = 1) (hsc : ∀ k, k < 16 → sm 20 (M 3 k)) (hop : ps 20 (M 2 1)) (hex : ps 20 (M 2 2)) : Spec mX6_distance [.ref 0, .int (nI i), .int (nI j)] M (cdP M 51 i j lo hi li lj a b) := by
  have hl1 := hi1.2.2.1
  have hl2 := hj1.2.2.1
  have hlo5 : lo < 5 := by unfold ord2 at ho; omega
  have hhi5 : hi < 5 := by unfold ord2 at ho; omega
  have hne : lo ≠ hi := by unfold ord2 at ho; omega
  have hlo1 : wordOK M lo a := by rcases ho with ⟨_, rfl, rfl, rfl, rfl⟩ | ⟨_, rfl, rfl, rfl, rfl⟩; exact hi1; exact hj1
  have hhi1 : wordOK M hi b := by rcases ho with ⟨_, rfl, rfl, rfl, rfl⟩ | ⟨_, rfl, rfl, rfl, rfl⟩; exact hj1; exact hi1
  have hab : a ≤ 12 ∧ b ≤ 12 := ⟨hlo1.2.2.1, hhi1.2.2.1⟩
  unfold ord2 at ho
  refine Spec.of (by decide) (by simp [Value.category]) (Nat.le_of_ble_eq_true rfl) ?_
  refine blk 6 [(.aload_n 0, 0, 0, 0), (.iload_n 1, 0, 0, 0), (.iload_n 2, 0, 0, 0)] [] (by decide +kernel) rfl (pc' := 3) (ls' := [some (.ref 0), some (.int (nI i)), some (.int (nI j)), none]) (st' := [.int (nI j), .int (nI i), .ref 0]) (M' := M) rfl ⟨trivial, trivial, trivial, trivial⟩ ?_
  refine g_callV (s_areTwoWords _ _ _) ok_X6_distance_X6_areTwoWords (by decide +kernel) rfl (c := 6) rfl (by decide) rfl (Nat.le_of_ble_eq_true rfl) (fun r M' h => ?_) rfl
  obtain ⟨hr, hM⟩ := h
  rw [hr, hM]
  show G _ 6 [some (.ref 0), some (.int (nI i)), some (.int (nI j)), none] [.int (bI (twoB (M 0 7) (nI i) (nI j)))] M _
  refine g_if_ne (off := 5) (tgt := 11) (by decide +kernel) (by decide) (fun c1 => ?_) (fun c1 => ?_)
  · refine blk 6 [(.aload_n 0, 0, 0, 0), (.getfield 11, 6, 0, 0), (.iload_n 1, 0, 0, 0), (.aaload, 0, 0, 0), (.getfield 59, 2, 1, 0), (.aload_n 0, 0, 0, 0), (.getfield 11, 6, 0, 0), (.iload_n 2, 0, 0, 0), (.aaload, 0, 0, 0), (.getfield 59, 2, 1, 0)] [i, j] (by decide +kernel) rfl (pc' := 29) (ls' := [some (.ref 0), some (.int (nI i)), some (.int (nI j)), none]) (st' := [.int (M (41 + j) 1), .int (M (41 + i) 1)]) (M' := M) rfl ⟨trivial, rfl, trivial, ⟨rfl, (by show _ < 5; omega)⟩, (kd41 (by omega)), trivial, rfl, trivial, ⟨rfl, (by show _ < 5; omega)⟩, (kd41 (by omega)), trivial⟩ ?_
    refine g_mmin (index := 105) (TB_in (by decide +kernel) (by decide +kernel)) (TB_in (by decide +kernel) (by decide +kernel)) (TB_in (by decide +kernel) (by decide +kernel)) (TB_in (by decide +kernel) (by decide +kernel)) (by decide) (Nat.le_of_ble_eq_true rfl) (by decide +kernel) ?_
    rw [hi1.1, hj1.1, min_nI (by omega) (by omega)]
    show G _ 32 [some (.ref 0), some (.int (nI i)), some (.int (nI j)), none] [.int (nI (min li lj))] M _
    refine blk 6 [(.istore_n 3, 0, 0, 0), (.aload_n 0, 0, 0, 0), (.getfield 87, 6, 8, 0)] [] (by decide +kernel) rfl (pc' := 37) (ls' := [some (.ref 0), some (.int (nI i)), some (.int (nI j)), some (.int (nI (min li lj)))]) (st' := [.int (M 0 8)]) (M' := M) rfl ⟨trivial, trivial, rfl, trivial⟩ ?_
    refine g_if_eq (off := 29) (tgt := 66) (by decide +kernel) (by decide) (fun c2 => ?_) (fun c2 => ?_)
    · refine blk 6 [(.aload_n 0, 0, 0, 0), (.iload_n 1, 0, 0, 0), (.iload_n 2, 0, 0, 0)] [] (by decide +kernel) rfl (pc' := 69) (ls' := [some (.ref 0), some (.int (nI i)), some (.int (nI j)), some (.int (nI (min li lj)))]) (st' := [.int (nI j), .int (nI i), .ref 0]) (M' := M) rfl ⟨trivial, trivial, trivial, trivial⟩ ?_
      refine g_mmin (index := 105) (TB_in (by decide +kernel) (by decide +kernel)) (TB_in (by decide +kernel) (by decide +kernel)) (TB_in (by decide +kernel) (by decide +kernel)) (TB_in (by decide +kernel) (by decide +kernel)) (by decide) (Nat.le_of_ble_eq_true rfl) (by decide +kernel) ?_
      rw [min_nI (by omega) (by omega), show min i j = lo by omega]
      show G _ 72 [some (.ref 0), some (.int (nI i)), some (.int (nI j)), some (.int (nI (min li lj)))] [.int (nI lo), .ref 0] M _
      refine blk 6 [(.iload_n 1, 0, 0, 0), (.iload_n 2, 0, 0, 0)] [] (by decide +kernel) rfl (pc' := 74) (ls' := [some (.ref 0), some (.int (nI i)), some (.int (nI j)), some (.int (nI (min li lj)))]) (st' := [.int (nI j), .int (nI i), .int (nI lo), .ref 0]) (M' := M) rfl ⟨trivial, trivial, trivial⟩ ?_
      refine g_mmax (index := 117) (TB_in (by decide +kernel) (by decide +kernel)) (TB_in (by decide +kernel) (by decide +kernel)) (TB_in (by decide +kernel) (by decide +kernel)) (TB_in (by decide +kernel) (by decide +kernel)) (by decide) (Nat.le_of_ble_eq_true rfl) (by decide +kernel) ?_
      rw [max_nI (by omega) (by omega), show max i j = hi by omega]
      show G _ 77 [some (.ref 0), some (.int (nI i)), some (.int (nI j)), some (.int (nI (min li lj)))] [.int (nI hi), .int (nI lo), .ref 0] M _
      refine g_callV (s_mot35 M (i := lo) (j := hi) (li := a) (lj := b) hT hlo5 hhi5 hne hlo1 hhi1 h97 hsc hop hex) ok_X6_distance_X6_mergeOnTrial (by decide +kernel) rfl (c := 6) rfl (by decide) rfl (Nat.le_of_ble_eq_true rfl) (fun r F h => ?_) rfl
      have hF := h
      obtain ⟨C, _, _, _, _, cz, R, T, n, _, _, _, _, wl, hr, u1, u2, fz⟩ := h
      rw [hr]
      have hTF : (F 0 6).toNatClampNeg = 35 := by rw [fz 0 (by omega) (fun a _ _ => by omega), cz 0 (by omega) (by omega) (by omega) (by omega)]; exact hT
      have h16 : n ≤ 24 := by have := wl.1; omega
      have hrow : ∀ x, x = lo ∨ x = hi → F (51 + x) 1 = nI n := fun x hx => by rcases hx with rfl | rfl; exact (u1 _ hlo5 ((hb_bit_ne hlo5 hlo5).mpr rfl)).1; exact (u2 _ hhi5 ((hb_bit_ne hhi5 hhi5).mpr rfl)).1
      have hni : F (51 + i) 1 = nI n := hrow i (by omega)
      show G _ 80 [some (.ref 0), some (.int (nI i)), some (.int (nI j)), some (.int (nI (min li lj)))] [.int (T 12 0)] F _
      refine blk 6 [(.pop, 0, 0, 0), (.sipush 1000, 0, 0, (nI 1000)), (.aload_n 0, 0, 0, 0), (.getfield 52, 6, 6, 0)] [] (by decide +kernel) rfl (pc' := 88) (ls' := [some (.ref 0), some (.int (nI i)), some (.int (nI j)), some (.int (nI (min li lj)))]) (st' := [.ref ((F 0 6).toNatClampNeg), .int (nI 1000)]) (M' := F) rfl ⟨rfl, trivial, trivial, rfl, trivial⟩ ?_
      rw [show (F 0 6).toNatClampNeg = 35 from hTF]
      refine blk 6 [(.getfield 120, 3, 0, 0), (.iload_n 1, 0, 0, 0), (.aaload, 0, 0, 0), (.aload_n 0, 0, 0, 0), (.getfield 52, 6, 6, 0)] [i] (by decide +kernel) rfl (pc' := 97) (ls' := [some (.ref 0), some (.int (nI i)), some (.int (nI j)), some (.int (nI (min li lj)))]) (st' := [.ref ((F 0 6).toNatClampNeg), .ref (51 + i), .int (nI 1000)]) (M' := F) rfl ⟨rfl, trivial, ⟨rfl, (by show _ < 5; omega)⟩, trivial, rfl, trivial⟩ ?_
      rw [show (F 0 6).toNatClampNeg = 35 from hTF]
      refine blk 6 [(.getfield 120, 3, 0, 0), (.iload_n 2, 0, 0, 0), (.aaload, 0, 0, 0)] [j] (by decide +kernel) rfl (pc' := 102) (ls' := [some (.ref 0), some (.int (nI i)), some (.int (nI j)), some (.int (nI (min li lj)))]) (st' := [.ref (51 + j), .ref (51 + i), .int (nI 1000)]) (M' := F) rfl ⟨rfl, trivial, ⟨rfl, (by show _ < 5; omega)⟩, trivial⟩ ?_
      refine g_callV (s_same F (t := 51 + i) (u := 51 + j) (w := n) (kd51 hi5) (kd51 hj5) hni (by rw [al56 hi5]; omega) (by rw [al56 hj5]; omega)) ok_X6_distance_X2_sameLettersAs (by decide +kernel) rfl (c := 2) (kd51 hi5) (by decide) rfl (Nat.le_of_ble_eq_true rfl) (fun r M' h => ?_) rfl
      obtain ⟨hr, hM⟩ := h
      rw [hr, hM]
      show G _ 105 [some (.ref 0), some (.int (nI i)), some (.int (nI j)), some (.int (nI (min li lj)))] [.int (psum (sameF F (51 + i) (51 + j)) n), .int (nI 1000)] F _
      refine blk 6 [(.iload_n 3, 0, 0, 0)] [] (by decide +kernel) rfl (pc' := 106) (ls' := [some (.ref 0), some (.int (nI i)), some (.int (nI j)), some (.int (nI (min li lj)))]) (st' := [.int (nI (min li lj)), .int (psum (sameF F (51 + i) (51 + j)) n), .int (nI 1000)]) (M' := F) rfl ⟨trivial, trivial⟩ ?_
      refine g_callS (s_share _ (psum (sameF F (51 + i) (51 + j)) n) (nI (min li lj))) ok_X6_distance_X6_share (by decide +kernel) rfl (Nat.le_of_ble_eq_true rfl) (fun r M' h => ?_) rfl
      obtain ⟨hr, hM⟩ := h
      rw [hr, hM]
      show G _ 109 [some (.ref 0), some (.int (nI i)), some (.int (nI j)), some (.int (nI (min li lj)))] [.int (shareF (psum (sameF F (51 + i) (51 + j)) n) (nI (min li lj))), .int (nI 1000)] F _
      refine blk 6 [(.isub, 0, 0, 0)] [] (by decide +kernel) rfl (pc' := 110) (ls' := [some (.ref 0), some (.int (nI i)), some (.int (nI j)), some (.int (nI (min li lj)))]) (st' := [.int ((nI 1000) - (shareF (psum (sameF F (51 + i) (51 + j)) n) (nI (min li lj))))]) (M' := F) rfl ⟨trivial, trivial⟩ ?_
      exact g_ireturn (by decide +kernel) rfl rfl ⟨_, rfl, Or.inl ⟨by assumption, _, n, hF, hni, h16, rfl⟩⟩
    · refine blk 6 [(.sipush 1000, 0, 0, (nI 1000)), (.aload_n 0, 0, 0, 0), (.getfield 11, 6, 0, 0), (.iload_n 1, 0, 0, 0), (.aaload, 0, 0, 0), (.aload_n 0, 0, 0, 0), (.getfield 11, 6, 0, 0), (.iload_n 2, 0, 0, 0), (.aaload, 0, 0, 0)] [i, j] (by decide +kernel) rfl (pc' := 55) (ls' := [some (.ref 0), some (.int (nI i)), some (.int (nI j)), some (.int (nI (min li lj)))]) (st' := [.ref (41 + j), .ref (41 + i), .int (nI 1000)]) (M' := M) rfl ⟨trivial, trivial, rfl, trivial, ⟨rfl, (by show _ < 5; omega)⟩, trivial, rfl, trivial, ⟨rfl, (by show _ < 5; omega)⟩, trivial⟩ ?_
      refine g_callV (s_tuples M (t := 41 + i) (u := 41 + j) (w := li) (v := lj) (kd41 hi5) (kd41 hj5) hi1.1 hj1.1 (by rw [al46 hi5]; omega) (by rw [al46 hj5]; omega)) ok_X6_distance_X2_tuplesSharedWith (by decide +kernel) rfl (c := 2) (kd41 hi5) (by decide) rfl (Nat.le_of_ble_eq_true rfl) (fun r M' h => ?_) rfl
      obtain ⟨hr, hM⟩ := h
      rw [hr, hM]
      show G _ 58 [some (.ref 0), some (.int (nI i)), some (.int (nI j)), some (.int (nI (min li lj)))] [.int (psum (fun x => psum (minF M (41 + i) (41 + j) li lj x) 4) 4), .int (nI 1000)] M _
      refine blk 6 [(.iload_n 3, 0, 0, 0), (.iconst 1, 0, 0, (nI 1)), (.isub, 0, 0, 0)] [] (by decide +kernel) rfl (pc' := 61) (ls' := [some (.ref 0), some (.int (nI i)), some (.int (nI j)), some (.int (nI (min li lj)))]) (st' := [.int ((nI (min li lj)) - (nI 1)), .int (psum (fun x => psum (minF M (41 + i) (41 + j) li lj x) 4) 4), .int (nI 1000)]) (M' := M) rfl ⟨trivial, trivial, trivial, trivial⟩ ?_
      refine g_callS (s_share _ (psum (fun x => psum (minF M (41 + i) (41 + j) li lj x) 4) 4) ((nI (min li lj)) - (nI 1))) ok_X6_distance_X6_share (by decide +kernel) rfl (Nat.le_of_ble_eq_true rfl) (fun r M' h => ?_) rfl
      obtain ⟨hr, hM⟩ := h
      rw [hr, hM]
      show G _ 64 [some (.ref 0), some (.int (nI i)), some (.int (nI j)), some (.int (nI (min li lj)))] [.int (shareF (psum (fun x => psum (minF M (41 + i) (41 + j) li lj x) 4) 4) ((nI (min li lj)) - (nI 1))), .int (nI 1000)] M _
      refine blk 6 [(.isub, 0, 0, 0)] [] (by decide +kernel) rfl (pc' := 65) (ls' := [some (.ref 0), some (.int (nI i)), some (.int (nI j)), some (.int (nI (min li lj)))]) (st' := [.int ((nI 1000) - (shareF (psum (fun x => psum (minF M (41 + i) (41 + j) li lj x) 4) 4) ((nI (min li lj)) - (nI 1))))]) (M' := M) rfl ⟨trivial, trivial⟩ ?_
      exact g_ireturn (by decide +kernel) rfl rfl ⟨_, rfl, Or.inr ⟨by assumption, rfl, rfl⟩⟩
  · refine blk 6 [(.iconst (-1), 0, 0, (-1))] [] (by decide +kernel) rfl (pc' := 10) (ls' := [some (.ref 0), some (.int (nI i)), some (.int (nI j)), none]) (st' := [.int (-1)]) (M' := M) rfl ⟨trivial, trivial⟩ ?_
    exact absurd (bI_eq c1) (by rw [htw]; decide)
theorem s_dist1_37 (M : Mem) {i j lo hi li lj a b : Nat} (htw : twoB (M 0 7) (nI i) (nI j) = true) (hT : (M 0 6).toNatClampNeg = 37) (hi5 : i < 5) (hj5 : j < 5) (ho : ord2 i j lo hi li lj a b) (hi1 : wordOK M i li) (hj1 : wordOK M j lj) (h97 : ∀ a, a < 5 → M 97 a = 1) (hsc : ∀ k, k < 16 → sm 20 (M 3 k)) (hop : ps 20 (M 2 1)) (hex : ps 20 (M 2 2)) : Spec mX6_distance [.ref 0, .int (nI i), .int (nI j)] M (cdP M 61 i j lo hi li lj a b) := by
  have hl1 := hi1.2.2.1
  have hl2 := hj1.2.2.1
  have hlo5 : lo < 5 := by unfold ord2 at ho; omega
  have hhi5 : hi < 5 := by unfold ord2 at ho; omega
  have hne : lo ≠ hi := by unfold ord2 at ho; omega
  have hlo1 : wordOK M lo a := by rcases ho with ⟨_, rfl, rfl, rfl, rfl⟩ | ⟨_, rfl, rfl, rfl, rfl⟩; exact hi1; exact hj1
  have hhi1 : wordOK M hi b := by rcases ho with ⟨_, rfl, rfl, rfl, rfl⟩ | ⟨_, rfl, rfl, rfl, rfl⟩; exact hj1; exact hi1
  have hab : a ≤ 12 ∧ b ≤ 12 := ⟨hlo1.2.2.1, hhi1.2.2.1⟩
  unfold ord2 at ho
  refine Spec.of (by decide) (by simp [Value.category]) (Nat.le_of_ble_eq_true rfl) ?_
  refine blk 6 [(.aload_n 0, 0, 0, 0), (.iload_n 1, 0, 0, 0), (.iload_n 2, 0, 0, 0)] [] (by decide +kernel) rfl (pc' := 3) (ls' := [some (.ref 0), some (.int (nI i)), some (.int (nI j)), none]) (st' := [.int (nI j), .int (nI i), .ref 0]) (M' := M) rfl ⟨trivial, trivial, trivial, trivial⟩ ?_
  refine g_callV (s_areTwoWords _ _ _) ok_X6_distance_X6_areTwoWords (by decide +kernel) rfl (c := 6) rfl (by decide) rfl (Nat.le_of_ble_eq_true rfl) (fun r M' h => ?_) rfl
  obtain ⟨hr, hM⟩ := h
  rw [hr, hM]
  show G _ 6 [some (.ref 0), some (.int (nI i)), some (.int (nI j)), none] [.int (bI (twoB (M 0 7) (nI i) (nI j)))] M _
  refine g_if_ne (off := 5) (tgt := 11) (by decide +kernel) (by decide) (fun c1 => ?_) (fun c1 => ?_)
  · refine blk 6 [(.aload_n 0, 0, 0, 0), (.getfield 11, 6, 0, 0), (.iload_n 1, 0, 0, 0), (.aaload, 0, 0, 0), (.getfield 59, 2, 1, 0), (.aload_n 0, 0, 0, 0), (.getfield 11, 6, 0, 0), (.iload_n 2, 0, 0, 0), (.aaload, 0, 0, 0), (.getfield 59, 2, 1, 0)] [i, j] (by decide +kernel) rfl (pc' := 29) (ls' := [some (.ref 0), some (.int (nI i)), some (.int (nI j)), none]) (st' := [.int (M (41 + j) 1), .int (M (41 + i) 1)]) (M' := M) rfl ⟨trivial, rfl, trivial, ⟨rfl, (by show _ < 5; omega)⟩, (kd41 (by omega)), trivial, rfl, trivial, ⟨rfl, (by show _ < 5; omega)⟩, (kd41 (by omega)), trivial⟩ ?_
    refine g_mmin (index := 105) (TB_in (by decide +kernel) (by decide +kernel)) (TB_in (by decide +kernel) (by decide +kernel)) (TB_in (by decide +kernel) (by decide +kernel)) (TB_in (by decide +kernel) (by decide +kernel)) (by decide) (Nat.le_of_ble_eq_true rfl) (by decide +kernel) ?_
    rw [hi1.1, hj1.1, min_nI (by omega) (by omega)]
    show G _ 32 [some (.ref 0), some (.int (nI i)), some (.int (nI j)), none] [.int (nI (min li lj))] M _
    refine blk 6 [(.istore_n 3, 0, 0, 0), (.aload_n 0, 0, 0, 0), (.getfield 87, 6, 8, 0)] [] (by decide +kernel) rfl (pc' := 37) (ls' := [some (.ref 0), some (.int (nI i)), some (.int (nI j)), some (.int (nI (min li lj)))]) (st' := [.int (M 0 8)]) (M' := M) rfl ⟨trivial, trivial, rfl, trivial⟩ ?_
    refine g_if_eq (off := 29) (tgt := 66) (by decide +kernel) (by decide) (fun c2 => ?_) (fun c2 => ?_)
    · refine blk 6 [(.aload_n 0, 0, 0, 0), (.iload_n 1, 0, 0, 0), (.iload_n 2, 0, 0, 0)] [] (by decide +kernel) rfl (pc' := 69) (ls' := [some (.ref 0), some (.int (nI i)), some (.int (nI j)), some (.int (nI (min li lj)))]) (st' := [.int (nI j), .int (nI i), .ref 0]) (M' := M) rfl ⟨trivial, trivial, trivial, trivial⟩ ?_
      refine g_mmin (index := 105) (TB_in (by decide +kernel) (by decide +kernel)) (TB_in (by decide +kernel) (by decide +kernel)) (TB_in (by decide +kernel) (by decide +kernel)) (TB_in (by decide +kernel) (by decide +kernel)) (by decide) (Nat.le_of_ble_eq_true rfl) (by decide +kernel) ?_
      rw [min_nI (by omega) (by omega), show min i j = lo by omega]
      show G _ 72 [some (.ref 0), some (.int (nI i)), some (.int (nI j)), some (.int (nI (min li lj)))] [.int (nI lo), .ref 0] M _
      refine blk 6 [(.iload_n 1, 0, 0, 0), (.iload_n 2, 0, 0, 0)] [] (by decide +kernel) rfl (pc' := 74) (ls' := [some (.ref 0), some (.int (nI i)), some (.int (nI j)), some (.int (nI (min li lj)))]) (st' := [.int (nI j), .int (nI i), .int (nI lo), .ref 0]) (M' := M) rfl ⟨trivial, trivial, trivial⟩ ?_
      refine g_mmax (index := 117) (TB_in (by decide +kernel) (by decide +kernel)) (TB_in (by decide +kernel) (by decide +kernel)) (TB_in (by decide +kernel) (by decide +kernel)) (TB_in (by decide +kernel) (by decide +kernel)) (by decide) (Nat.le_of_ble_eq_true rfl) (by decide +kernel) ?_
      rw [max_nI (by omega) (by omega), show max i j = hi by omega]
      show G _ 77 [some (.ref 0), some (.int (nI i)), some (.int (nI j)), some (.int (nI (min li lj)))] [.int (nI hi), .int (nI lo), .ref 0] M _
      refine g_callV (s_mot37 M (i := lo) (j := hi) (li := a) (lj := b) hT hlo5 hhi5 hne hlo1 hhi1 h97 hsc hop hex) ok_X6_distance_X6_mergeOnTrial (by decide +kernel) rfl (c := 6) rfl (by decide) rfl (Nat.le_of_ble_eq_true rfl) (fun r F h => ?_) rfl
      have hF := h
      obtain ⟨C, _, _, _, _, cz, R, T, n, _, _, _, _, wl, hr, u1, u2, fz⟩ := h
      rw [hr]
      have hTF : (F 0 6).toNatClampNeg = 37 := by rw [fz 0 (by omega) (fun a _ _ => by omega), cz 0 (by omega) (by omega) (by omega) (by omega)]; exact hT
      have h16 : n ≤ 24 := by have := wl.1; omega
      have hrow : ∀ x, x = lo ∨ x = hi → F (61 + x) 1 = nI n := fun x hx => by rcases hx with rfl | rfl; exact (u1 _ hlo5 ((hb_bit_ne hlo5 hlo5).mpr rfl)).1; exact (u2 _ hhi5 ((hb_bit_ne hhi5 hhi5).mpr rfl)).1
      have hni : F (61 + i) 1 = nI n := hrow i (by omega)
      show G _ 80 [some (.ref 0), some (.int (nI i)), some (.int (nI j)), some (.int (nI (min li lj)))] [.int (T 12 0)] F _
      refine blk 6 [(.pop, 0, 0, 0), (.sipush 1000, 0, 0, (nI 1000)), (.aload_n 0, 0, 0, 0), (.getfield 52, 6, 6, 0)] [] (by decide +kernel) rfl (pc' := 88) (ls' := [some (.ref 0), some (.int (nI i)), some (.int (nI j)), some (.int (nI (min li lj)))]) (st' := [.ref ((F 0 6).toNatClampNeg), .int (nI 1000)]) (M' := F) rfl ⟨rfl, trivial, trivial, rfl, trivial⟩ ?_
      rw [show (F 0 6).toNatClampNeg = 37 from hTF]
      refine blk 6 [(.getfield 120, 3, 0, 0), (.iload_n 1, 0, 0, 0), (.aaload, 0, 0, 0), (.aload_n 0, 0, 0, 0), (.getfield 52, 6, 6, 0)] [i] (by decide +kernel) rfl (pc' := 97) (ls' := [some (.ref 0), some (.int (nI i)), some (.int (nI j)), some (.int (nI (min li lj)))]) (st' := [.ref ((F 0 6).toNatClampNeg), .ref (61 + i), .int (nI 1000)]) (M' := F) rfl ⟨rfl, trivial, ⟨rfl, (by show _ < 5; omega)⟩, trivial, rfl, trivial⟩ ?_
      rw [show (F 0 6).toNatClampNeg = 37 from hTF]
      refine blk 6 [(.getfield 120, 3, 0, 0), (.iload_n 2, 0, 0, 0), (.aaload, 0, 0, 0)] [j] (by decide +kernel) rfl (pc' := 102) (ls' := [some (.ref 0), some (.int (nI i)), some (.int (nI j)), some (.int (nI (min li lj)))]) (st' := [.ref (61 + j), .ref (61 + i), .int (nI 1000)]) (M' := F) rfl ⟨rfl, trivial, ⟨rfl, (by show _ < 5; omega)⟩, trivial⟩ ?_
      refine g_callV (s_same F (t := 61 + i) (u := 61 + j) (w := n) (kd61 hi5) (kd61 hj5) hni (by rw [al66 hi5]; omega) (by rw [al66 hj5]; omega)) ok_X6_distance_X2_sameLettersAs (by decide +kernel) rfl (c := 2) (kd61 hi5) (by decide) rfl (Nat.le_of_ble_eq_true rfl) (fun r M' h => ?_) rfl
      obtain ⟨hr, hM⟩ := h
      rw [hr, hM]
      show G _ 105 [some (.ref 0), some (.int (nI i)), some (.int (nI j)), some (.int (nI (min li lj)))] [.int (psum (sameF F (61 + i) (61 + j)) n), .int (nI 1000)] F _
      refine blk 6 [(.iload_n 3, 0, 0, 0)] [] (by decide +kernel) rfl (pc' := 106) (ls' := [some (.ref 0), some (.int (nI i)), some (.int (nI j)), some (.int (nI (min li lj)))]) (st' := [.int (nI (min li lj)), .int (psum (sameF F (61 + i) (61 + j)) n), .int (nI 1000)]) (M' := F) rfl ⟨trivial, trivial⟩ ?_
      refine g_callS (s_share _ (psum (sameF F (61 + i) (61 + j)) n) (nI (min li lj))) ok_X6_distance_X6_share (by decide +kernel) rfl (Nat.le_of_ble_eq_true rfl) (fun r M' h => ?_) rfl
      obtain ⟨hr, hM⟩ := h
      rw [hr, hM]
      show G _ 109 [some (.ref 0), some (.int (nI i)), some (.int (nI j)), some (.int (nI (min li lj)))] [.int (shareF (psum (sameF F (61 + i) (61 + j)) n) (nI (min li lj))), .int (nI 1000)] F _
      refine blk 6 [(.isub, 0, 0, 0)] [] (by decide +kernel) rfl (pc' := 110) (ls' := [some (.ref 0), some (.int (nI i)), some (.int (nI j)), some (.int (nI (min li lj)))]) (st' := [.int ((nI 1000) - (shareF (psum (sameF F (61 + i) (61 + j)) n) (nI (min li lj))))]) (M' := F) rfl ⟨trivial, trivial⟩ ?_
      exact g_ireturn (by decide +kernel) rfl rfl ⟨_, rfl, Or.inl ⟨by assumption, _, n, hF, hni, h16, rfl⟩⟩
    · refine blk 6 [(.sipush 1000, 0, 0, (nI 1000)), (.aload_n 0, 0, 0, 0), (.getfield 11, 6, 0, 0), (.iload_n 1, 0, 0, 0), (.aaload, 0, 0, 0), (.aload_n 0, 0, 0, 0), (.getfield 11, 6, 0, 0), (.iload_n 2, 0, 0, 0), (.aaload, 0, 0, 0)] [i, j] (by decide +kernel) rfl (pc' := 55) (ls' := [some (.ref 0), some (.int (nI i)), some (.int (nI j)), some (.int (nI (min li lj)))]) (st' := [.ref (41 + j), .ref (41 + i), .int (nI 1000)]) (M' := M) rfl ⟨trivial, trivial, rfl, trivial, ⟨rfl, (by show _ < 5; omega)⟩, trivial, rfl, trivial, ⟨rfl, (by show _ < 5; omega)⟩, trivial⟩ ?_
      refine g_callV (s_tuples M (t := 41 + i) (u := 41 + j) (w := li) (v := lj) (kd41 hi5) (kd41 hj5) hi1.1 hj1.1 (by rw [al46 hi5]; omega) (by rw [al46 hj5]; omega)) ok_X6_distance_X2_tuplesSharedWith (by decide +kernel) rfl (c := 2) (kd41 hi5) (by decide) rfl (Nat.le_of_ble_eq_true rfl) (fun r M' h => ?_) rfl
      obtain ⟨hr, hM⟩ := h
      rw [hr, hM]
      show G _ 58 [some (.ref 0), some (.int (nI i)), some (.int (nI j)), some (.int (nI (min li lj)))] [.int (psum (fun x => psum (minF M (41 + i) (41 + j) li lj x) 4) 4), .int (nI 1000)] M _
      refine blk 6 [(.iload_n 3, 0, 0, 0), (.iconst 1, 0, 0, (nI 1)), (.isub, 0, 0, 0)] [] (by decide +kernel) rfl (pc' := 61) (ls' := [some (.ref 0), some (.int (nI i)), some (.int (nI j)), some (.int (nI (min li lj)))]) (st' := [.int ((nI (min li lj)) - (nI 1)), .int (psum (fun x => psum (minF M (41 + i) (41 + j) li lj x) 4) 4), .int (nI 1000)]) (M' := M) rfl ⟨trivial, trivial, trivial, trivial⟩ ?_
      refine g_callS (s_share _ (psum (fun x => psum (minF M (41 + i) (41 + j) li lj x) 4) 4) ((nI (min li lj)) - (nI 1))) ok_X6_distance_X6_share (by decide +kernel) rfl (Nat.le_of_ble_eq_true rfl) (fun r M' h => ?_) rfl
      obtain ⟨hr, hM⟩ := h
      rw [hr, hM]
      show G _ 64 [some (.ref 0), some (.int (nI i)), some (.int (nI j)), some (.int (nI (min li lj)))] [.int (shareF (psum (fun x => psum (minF M (41 + i) (41 + j) li lj x) 4) 4) ((nI (min li lj)) - (nI 1))), .int (nI 1000)] M _
      refine blk 6 [(.isub, 0, 0, 0)] [] (by decide +kernel) rfl (pc' := 65) (ls' := [some (.ref 0), some (.int (nI i)), some (.int (nI j)), some (.int (nI (min li lj)))]) (st' := [.int ((nI 1000) - (shareF (psum (fun x => psum (minF M (41 + i) (41 + j) li lj x) 4) 4) ((nI (min li lj)) - (nI 1))))]) (M' := M) rfl ⟨trivial, trivial⟩ ?_
      exact g_ireturn (by decide +kernel) rfl rfl ⟨_, rfl, Or.inr ⟨by assumption, rfl, rfl⟩⟩
  · refine blk 6 [(.iconst (-1), 0, 0, (-1))] [] (by decide +kernel) rfl (pc' := 10) (ls' := [some (.ref 0), some (.int (nI i)), some (.int (nI j)), none]) (st' := [.int (-1)]) (M' := M) rfl ⟨trivial, trivial⟩ ?_
    exact absurd (bI_eq c1) (by rw [htw]; decide)
theorem s_dist0 (M : Mem) {i j : Int32} (hno : twoB (M 0 7) i j = false) : Spec mX6_distance [.ref 0, .int i, .int j] M (Ret (-1) M) := by
  refine Spec.of (by decide) (by simp [Value.category]) (Nat.le_of_ble_eq_true rfl) ?_
  refine blk 6 [(.aload_n 0, 0, 0, 0), (.iload_n 1, 0, 0, 0), (.iload_n 2, 0, 0, 0)] [] (by decide +kernel) rfl (pc' := 3) (ls' := [some (.ref 0), some (.int i), some (.int j), none]) (st' := [.int j, .int i, .ref 0]) (M' := M) rfl ⟨trivial, trivial, trivial, trivial⟩ ?_
  refine g_callV (s_areTwoWords _ _ _) ok_X6_distance_X6_areTwoWords (by decide +kernel) rfl (c := 6) rfl (by decide) rfl (Nat.le_of_ble_eq_true rfl) (fun r M' h => ?_) rfl
  obtain ⟨hr, hM⟩ := h
  rw [hr, hM]
  show G _ 6 [some (.ref 0), some (.int i), some (.int j), none] [.int (bI (twoB (M 0 7) i j))] M _
  refine g_if_ne (off := 5) (tgt := 11) (by decide +kernel) (by decide) (fun c1 => ?_) (fun c1 => ?_)
  · exact absurd (bI_ne c1) (by rw [hno]; decide)
  · refine blk 6 [(.iconst (-1), 0, 0, (-1))] [] (by decide +kernel) rfl (pc' := 10) (ls' := [some (.ref 0), some (.int i), some (.int j), none]) (st' := [.int (-1)]) (M' := M) rfl ⟨trivial, trivial⟩ ?_
    exact g_ireturn (by decide +kernel) rfl rfl ⟨rfl, rfl⟩
theorem s_mdist0 (M : Mem) {i j : Int32} (hno : twoB (M 72 0) i j = false) : Spec mX7_distance [.ref 72, .int i, .int j] M (Ret (-1) M) := by
  refine Spec.of (by decide) (by simp [Value.category]) (Nat.le_of_ble_eq_true rfl) ?_
  refine blk 7 [(.aload_n 0, 0, 0, 0), (.iload_n 1, 0, 0, 0), (.iload_n 2, 0, 0, 0)] [] (by decide +kernel) rfl (pc' := 3) (ls' := [some (.ref 72), some (.int i), some (.int j), none, none, none, none, none]) (st' := [.int j, .int i, .ref 72]) (M' := M) rfl ⟨trivial, trivial, trivial, trivial⟩ ?_
  refine g_callV (s_areTwo _ _ _) ok_X7_distance_X7_areTwo (by decide +kernel) rfl (c := 7) rfl (by decide) rfl (Nat.le_of_ble_eq_true rfl) (fun r M' h => ?_) rfl
  obtain ⟨hr, hM⟩ := h
  rw [hr, hM]
  show G _ 6 [some (.ref 72), some (.int i), some (.int j), none, none, none, none, none] [.int (bI (twoB (M 72 0) i j))] M _
  refine g_if_ne (off := 5) (tgt := 11) (by decide +kernel) (by decide) (fun c1 => ?_) (fun c1 => ?_)
  · exact absurd (bI_ne c1) (by rw [hno]; decide)
  · refine blk 7 [(.iconst (-1), 0, 0, (-1))] [] (by decide +kernel) rfl (pc' := 10) (ls' := [some (.ref 72), some (.int i), some (.int j), none, none, none, none, none]) (st' := [.int (-1)]) (M' := M) rfl ⟨trivial, trivial⟩ ?_
    exact g_ireturn (by decide +kernel) rfl rfl ⟨rfl, rfl⟩
theorem l_mdist {F : Mem} {i j l lo hi n : Nat} {Post : Option Value → Mem → Prop} (hn : F 72 31 = nI n) (hn24 : n ≤ 24) (hlo : lo < 5) (hhi : hi < 5) (nz0 : ¬ nI l = 0) (hp : Post (some (.int (nI 1000 - nI 1000 * psum (msmF F lo hi) n / nI l))) F) : ∀ d k, d = n - k → k ≤ n → G mX7_distance 118 [some (.ref 72), some (.int (nI i)), some (.int (nI j)), some (.int (nI l)), some (.int (nI lo)), some (.int (nI hi)), some (.int (psum (msmF F lo hi) k)), some (.int (nI k))] [] F Post := by
  intro d
  induction d using Nat.strongRecOn with
  | ind d ih =>
    intro k hd hk
    refine blk 7 [(.iload 7, 0, 0, 0), (.aload_n 0, 0, 0, 0), (.getfield 161, 7, 31, 0)] [] (by decide +kernel) rfl (pc' := 124) (ls' := [some (.ref 72), some (.int (nI i)), some (.int (nI j)), some (.int (nI l)), some (.int (nI lo)), some (.int (nI hi)), some (.int (psum (msmF F lo hi) k)), some (.int (nI k))]) (st' := [.int (F 72 31), .int (nI k)]) (M' := F) rfl ⟨trivial, trivial, rfl, trivial⟩ ?_
    refine g_icmp_ge (off := 65) (tgt := 189) (by decide +kernel) (by decide) (fun c1 => ?_) (fun c1 => ?_)
    · have nc1 : n ≤ k := (nI_leI (by omega) (by omega)).mp (by simpa only [hn, nI_add, pk_mul, nI_s1, n0_lit] using c1)
      refine blk 7 [(.sipush 1000, 0, 0, (nI 1000)), (.sipush 1000, 0, 0, (nI 1000)), (.iload 6, 0, 0, 0), (.imul, 0, 0, 0), (.iload_n 3, 0, 0, 0), (.idiv, 0, 0, 0), (.isub, 0, 0, 0)] [] (by decide +kernel) rfl (pc' := 201) (ls' := [some (.ref 72), some (.int (nI i)), some (.int (nI j)), some (.int (nI l)), some (.int (nI lo)), some (.int (nI hi)), some (.int (psum (msmF F lo hi) k)), some (.int (nI k))]) (st' := [.int ((nI 1000) - (((nI 1000) * (psum (msmF F lo hi) k)) / (nI l)))]) (M' := F) rfl ⟨trivial, trivial, trivial, trivial, trivial, nz0, trivial, trivial⟩ ?_
      have e : k = n := by omega
      subst e
      exact g_ireturn (by decide +kernel) rfl rfl hp
    · have nc1 : k < n := by
        have z : ¬ nI n ≤ nI k := by simpa only [hn, nI_add, pk_mul, nI_s1, n0_lit] using c1
        rw [nI_leI (by omega) (by omega)] at z
        omega
      refine blk 7 [(.iload 6, 0, 0, 0), (.aload_n 0, 0, 0, 0), (.getfield 71, 7, 32, 0), (.bipush 60, 0, 0, (nI 60)), (.iload 4, 0, 0, 0), (.imul, 0, 0, 0), (.iload 7, 0, 0, 0), (.iadd, 0, 0, 0), (.iaload, 0, 0, 0), (.iconst (-1), 0, 0, (-1))] [60 * lo + k] (by decide +kernel) rfl (pc' := 143) (ls' := [some (.ref 72), some (.int (nI i)), some (.int (nI j)), some (.int (nI l)), some (.int (nI lo)), some (.int (nI hi)), some (.int (psum (msmF F lo hi) k)), some (.int (nI k))]) (st' := [.int (-1), .int (F 92 (60 * lo + k)), .int (psum (msmF F lo hi) k)]) (M' := F) rfl ⟨trivial, trivial, rfl, trivial, trivial, trivial, trivial, trivial, ⟨(by simp only [hn, nI_add, pk_mul, nI_s1, Nat.reduceAdd, Nat.reduceMul]), (by show _ < 300; omega)⟩, trivial, trivial⟩ ?_
      refine g_icmp_eq (off := 36) (tgt := 179) (by decide +kernel) (by decide) (fun c2 => ?_) (fun c2 => ?_)
      · refine blk 7 [(.iconst 0, 0, 0, (nI 0)), (.iadd, 0, 0, 0), (.istore 6, 0, 0, 0), (.iinc 7 1, 0, 0, (nI 1)), (.goto (-68), 118, 0, 0)] [] (by decide +kernel) rfl (pc' := 118) (ls' := [some (.ref 72), some (.int (nI i)), some (.int (nI j)), some (.int (nI l)), some (.int (nI lo)), some (.int (nI hi)), some (.int ((psum (msmF F lo hi) k) + (nI 0))), some (.int (nI k + nI 1))]) (st' := []) (M' := F) rfl ⟨trivial, trivial, trivial, trivial, trivial, trivial⟩ ?_
        have e : (psum (msmF F lo hi) k) + (nI 0) = psum (msmF F lo hi) (k + 1) := by rw [psum]; congr 1; unfold msmF; rw [if_neg (fun z => by first | exact z.1 (by assumption) | exact absurd z.2 (by assumption))]; exact nI_0
        refine G.sub (ls' := [some (.ref 72), some (.int (nI i)), some (.int (nI j)), some (.int (nI l)), some (.int (nI lo)), some (.int (nI hi)), some (.int (psum (msmF F lo hi) (k + 1))), some (.int (nI (k + 1)))]) ?_ ⟨rfl, rfl, rfl, rfl, rfl, rfl, congrArg (fun z => some (Value.int z)) e, congrArg (fun z => some (Value.int z)) (by simp only [nI_add, nI_s1]), trivial⟩
        exact ih (d - 1) (by omega) (k + 1) (by omega) (by omega)
      · refine blk 7 [(.aload_n 0, 0, 0, 0), (.getfield 71, 7, 32, 0), (.bipush 60, 0, 0, (nI 60)), (.iload 4, 0, 0, 0), (.imul, 0, 0, 0), (.iload 7, 0, 0, 0), (.iadd, 0, 0, 0), (.iaload, 0, 0, 0), (.aload_n 0, 0, 0, 0), (.getfield 71, 7, 32, 0), (.bipush 60, 0, 0, (nI 60)), (.iload 5, 0, 0, 0), (.imul, 0, 0, 0), (.iload 7, 0, 0, 0), (.iadd, 0, 0, 0), (.iaload, 0, 0, 0)] [60 * lo + k, 60 * hi + k] (by decide +kernel) rfl (pc' := 172) (ls' := [some (.ref 72), some (.int (nI i)), some (.int (nI j)), some (.int (nI l)), some (.int (nI lo)), some (.int (nI hi)), some (.int (psum (msmF F lo hi) k)), some (.int (nI k))]) (st' := [.int (F 92 (60 * hi + k)), .int (F 92 (60 * lo + k)), .int (psum (msmF F lo hi) k)]) (M' := F) rfl ⟨trivial, rfl, trivial, trivial, trivial, trivial, trivial, ⟨(by simp only [hn, nI_add, pk_mul, nI_s1, Nat.reduceAdd, Nat.reduceMul]), (by show _ < 300; omega)⟩, trivial, rfl, trivial, trivial, trivial, trivial, trivial, ⟨(by simp only [hn, nI_add, pk_mul, nI_s1, Nat.reduceAdd, Nat.reduceMul]), (by show _ < 300; omega)⟩, trivial⟩ ?_
        refine g_icmp_ne (off := 7) (tgt := 179) (by decide +kernel) (by decide) (fun c3 => ?_) (fun c3 => ?_)
        · refine blk 7 [(.iconst 0, 0, 0, (nI 0)), (.iadd, 0, 0, 0), (.istore 6, 0, 0, 0), (.iinc 7 1, 0, 0, (nI 1)), (.goto (-68), 118, 0, 0)] [] (by decide +kernel) rfl (pc' := 118) (ls' := [some (.ref 72), some (.int (nI i)), some (.int (nI j)), some (.int (nI l)), some (.int (nI lo)), some (.int (nI hi)), some (.int ((psum (msmF F lo hi) k) + (nI 0))), some (.int (nI k + nI 1))]) (st' := []) (M' := F) rfl ⟨trivial, trivial, trivial, trivial, trivial, trivial⟩ ?_
          have e : (psum (msmF F lo hi) k) + (nI 0) = psum (msmF F lo hi) (k + 1) := by rw [psum]; congr 1; unfold msmF; rw [if_neg (fun z => by first | exact z.1 (by assumption) | exact absurd z.2 (by assumption))]; exact nI_0
          refine G.sub (ls' := [some (.ref 72), some (.int (nI i)), some (.int (nI j)), some (.int (nI l)), some (.int (nI lo)), some (.int (nI hi)), some (.int (psum (msmF F lo hi) (k + 1))), some (.int (nI (k + 1)))]) ?_ ⟨rfl, rfl, rfl, rfl, rfl, rfl, congrArg (fun z => some (Value.int z)) e, congrArg (fun z => some (Value.int z)) (by simp only [nI_add, nI_s1]), trivial⟩
          exact ih (d - 1) (by omega) (k + 1) (by omega) (by omega)
        · refine blk 7 [(.iconst 1, 0, 0, (nI 1)), (.goto (4), 180, 0, 0), (.iadd, 0, 0, 0), (.istore 6, 0, 0, 0), (.iinc 7 1, 0, 0, (nI 1)), (.goto (-68), 118, 0, 0)] [] (by decide +kernel) rfl (pc' := 118) (ls' := [some (.ref 72), some (.int (nI i)), some (.int (nI j)), some (.int (nI l)), some (.int (nI lo)), some (.int (nI hi)), some (.int ((psum (msmF F lo hi) k) + (nI 1))), some (.int (nI k + nI 1))]) (st' := []) (M' := F) rfl ⟨trivial, trivial, trivial, trivial, trivial, trivial, trivial⟩ ?_
          have e : (psum (msmF F lo hi) k) + (nI 1) = psum (msmF F lo hi) (k + 1) := by rw [psum]; congr 1; unfold msmF; rw [if_pos ⟨by assumption, by assumption⟩]; exact n1_lit
          refine G.sub (ls' := [some (.ref 72), some (.int (nI i)), some (.int (nI j)), some (.int (nI l)), some (.int (nI lo)), some (.int (nI hi)), some (.int (psum (msmF F lo hi) (k + 1))), some (.int (nI (k + 1)))]) ?_ ⟨rfl, rfl, rfl, rfl, rfl, rfl, congrArg (fun z => some (Value.int z)) e, congrArg (fun z => some (Value.int z)) (by simp only [nI_add, nI_s1]), trivial⟩
          exact ih (d - 1) (by omega) (k + 1) (by omega) (by omega)
theorem l_mdist3 (M : Mem) {i j lo hi li lj a b : Nat} (hi5 : i < 5) (hj5 : j < 5) (ho : ord2 i j lo hi li lj a b) (hi1 : mwordOK M i li) (hj1 : mwordOK M j lj) (htp : M 72 8 = 0) : G mX7_distance 103 [some (.ref 72), some (.int (nI i)), some (.int (nI j)), some (.int (nI (min li lj))), some (.int (nI lo)), some (.int (nI hi)), none, none] [] M (mdP M i j lo hi li lj a b) := by
  have hl1 := hi1.2.2.1
  have hl2 := hj1.2.2.1
  have hm1 := hi1.2.1
  have hm2 := hj1.2.1
  have hlo5 : lo < 5 := by unfold ord2 at ho; omega
  have hhi5 : hi < 5 := by unfold ord2 at ho; omega
  have hlo1 : mwordOK M lo a := by rcases ho with ⟨_, rfl, rfl, rfl, rfl⟩ | ⟨_, rfl, rfl, rfl, rfl⟩; exact hi1; exact hj1
  have hhi1 : mwordOK M hi b := by rcases ho with ⟨_, rfl, rfl, rfl, rfl⟩ | ⟨_, rfl, rfl, rfl, rfl⟩; exact hj1; exact hi1
  have hab : a ≤ 12 ∧ b ≤ 12 := ⟨hlo1.2.2.1, hhi1.2.2.1⟩
  unfold ord2 at ho
  have nz0 : ¬ nI (min li lj) = 0 := fun z => absurd ((nI_eq (by omega) (by omega)).mp (z.trans nI_0.symm)) (by omega)
  refine blk 7 [(.aload_n 0, 0, 0, 0), (.iload 4, 0, 0, 0), (.iload 5, 0, 0, 0)] [] (by decide +kernel) rfl (pc' := 108) (ls' := [some (.ref 72), some (.int (nI i)), some (.int (nI j)), some (.int (nI (min li lj))), some (.int (nI lo)), some (.int (nI hi)), none, none]) (st' := [.int (nI hi), .int (nI lo), .ref 72]) (M' := M) rfl ⟨trivial, trivial, trivial, trivial⟩ ?_
  refine g_callV (s_mmw M (i := lo) (j := hi) (li := a) (lj := b) hlo5 hhi5 hlo1 hhi1) ok_X7_distance_X7_mergeWords (by decide +kernel) rfl (c := 7) rfl (by decide) rfl (Nat.le_of_ble_eq_true rfl) (fun r F h => ?_) rfl
  have hF := h
  obtain ⟨D, _, _, _, _, _, _, _, _, _, R, T, n, _, _, _, wl, hr, hn, _⟩ := h
  rw [hr]
  have h16 : n ≤ 24 := by have := wl.1; omega
  show G _ 111 [some (.ref 72), some (.int (nI i)), some (.int (nI j)), some (.int (nI (min li lj))), some (.int (nI lo)), some (.int (nI hi)), none, none] [.int (T 40 0)] F _
  refine blk 7 [(.pop, 0, 0, 0), (.iconst 0, 0, 0, (nI 0)), (.istore 6, 0, 0, 0), (.iconst 0, 0, 0, (nI 0)), (.istore 7, 0, 0, 0)] [] (by decide +kernel) rfl (pc' := 118) (ls' := [some (.ref 72), some (.int (nI i)), some (.int (nI j)), some (.int (nI (min li lj))), some (.int (nI lo)), some (.int (nI hi)), some (.int (nI 0)), some (.int (nI 0))]) (st' := []) (M' := F) rfl ⟨rfl, trivial, trivial, trivial, trivial, trivial⟩ ?_
  refine G.sub (ls' := [some (.ref 72), some (.int (nI i)), some (.int (nI j)), some (.int (nI (min li lj))), some (.int (nI lo)), some (.int (nI hi)), some (.int (psum (msmF F lo hi) 0)), some (.int (nI 0))]) ?_ ⟨rfl, rfl, rfl, rfl, rfl, rfl, congrArg (fun z => some (Value.int z)) nI_0, rfl, trivial⟩
  exact l_mdist hn h16 hlo5 hhi5 nz0 ⟨_, rfl, Or.inl ⟨htp, _, n, hF, hn, h16, rfl⟩⟩ _ 0 rfl (by omega)
theorem l_mdist2 (M : Mem) {i j lo hi li lj a b : Nat} (hi5 : i < 5) (hj5 : j < 5) (ho : ord2 i j lo hi li lj a b) (hi1 : mwordOK M i li) (hj1 : mwordOK M j lj) : G mX7_distance 42 [some (.ref 72), some (.int (nI i)), some (.int (nI j)), some (.int (nI (min li lj))), none, none, none, none] [] M (mdP M i j lo hi li lj a b) := by
  have hord := ho
  have hl1 := hi1.2.2.1
  have hl2 := hj1.2.2.1
  have hm1 := hi1.2.1
  have hm2 := hj1.2.1
  have hlo5 : lo < 5 := by unfold ord2 at ho; omega
  have hhi5 : hi < 5 := by unfold ord2 at ho; omega
  have hlo1 : mwordOK M lo a := by rcases ho with ⟨_, rfl, rfl, rfl, rfl⟩ | ⟨_, rfl, rfl, rfl, rfl⟩; exact hi1; exact hj1
  have hhi1 : mwordOK M hi b := by rcases ho with ⟨_, rfl, rfl, rfl, rfl⟩ | ⟨_, rfl, rfl, rfl, rfl⟩; exact hj1; exact hi1
  have hab : a ≤ 12 ∧ b ≤ 12 := ⟨hlo1.2.2.1, hhi1.2.2.1⟩
  unfold ord2 at ho
  have nz0 : ¬ nI (min li lj) = 0 := fun z => absurd ((nI_eq (by omega) (by omega)).mp (z.trans nI_0.symm)) (by omega)
  refine blk 7 [(.aload_n 0, 0, 0, 0), (.getfield 109, 7, 8, 0)] [] (by decide +kernel) rfl (pc' := 46) (ls' := [some (.ref 72), some (.int (nI i)), some (.int (nI j)), some (.int (nI (min li lj))), none, none, none, none]) (st' := [.int (M 72 8)]) (M' := M) rfl ⟨trivial, rfl, trivial⟩ ?_
  refine g_if_eq (off := 33) (tgt := 79) (by decide +kernel) (by decide) (fun c1 => ?_) (fun c1 => ?_)
  · refine blk 7 [(.iload_n 1, 0, 0, 0), (.iload_n 2, 0, 0, 0)] [] (by decide +kernel) rfl (pc' := 81) (ls' := [some (.ref 72), some (.int (nI i)), some (.int (nI j)), some (.int (nI (min li lj))), none, none, none, none]) (st' := [.int (nI j), .int (nI i)]) (M' := M) rfl ⟨trivial, trivial, trivial⟩ ?_
    refine g_icmp_ge (off := 7) (tgt := 88) (by decide +kernel) (by decide) (fun c2 => ?_) (fun c2 => ?_)
    · have nc2 : j ≤ i := (nI_leI (by omega) (by omega)).mp (by simpa only [nI_add, pk_mul, nI_s1, n0_lit] using c2)
      refine blk 7 [(.iload_n 2, 0, 0, 0), (.istore 4, 0, 0, 0), (.iload_n 1, 0, 0, 0), (.iload_n 2, 0, 0, 0)] [] (by decide +kernel) rfl (pc' := 93) (ls' := [some (.ref 72), some (.int (nI i)), some (.int (nI j)), some (.int (nI (min li lj))), some (.int (nI j)), none, none, none]) (st' := [.int (nI j), .int (nI i)]) (M' := M) rfl ⟨trivial, trivial, trivial, trivial, trivial⟩ ?_
      refine g_icmp_ge (off := 7) (tgt := 100) (by decide +kernel) (by decide) (fun c3 => ?_) (fun c3 => ?_)
      · have nc3 : j ≤ i := (nI_leI (by omega) (by omega)).mp (by simpa only [nI_add, pk_mul, nI_s1, n0_lit] using c3)
        refine blk 7 [(.iload_n 1, 0, 0, 0), (.istore 5, 0, 0, 0)] [] (by decide +kernel) rfl (pc' := 103) (ls' := [some (.ref 72), some (.int (nI i)), some (.int (nI j)), some (.int (nI (min li lj))), some (.int (nI j)), some (.int (nI i)), none, none]) (st' := []) (M' := M) rfl ⟨trivial, trivial, trivial⟩ ?_
        refine G.sub (ls' := [some (.ref 72), some (.int (nI i)), some (.int (nI j)), some (.int (nI (min li lj))), some (.int (nI lo)), some (.int (nI hi)), none, none]) ?_ ⟨rfl, rfl, rfl, rfl, congrArg (fun z => some (Value.int z)) (congrArg nI (by omega)), congrArg (fun z => some (Value.int z)) (congrArg nI (by omega)), trivial⟩
        exact l_mdist3 M hi5 hj5 hord hi1 hj1 (by assumption)
      · have nc3 : i < j := by
          have z : ¬ nI j ≤ nI i := by simpa only [nI_add, pk_mul, nI_s1, n0_lit] using c3
          rw [nI_leI (by omega) (by omega)] at z
          omega
        refine blk 7 [(.iload_n 2, 0, 0, 0), (.goto (4), 101, 0, 0), (.istore 5, 0, 0, 0)] [] (by decide +kernel) rfl (pc' := 103) (ls' := [some (.ref 72), some (.int (nI i)), some (.int (nI j)), some (.int (nI (min li lj))), some (.int (nI j)), some (.int (nI j)), none, none]) (st' := []) (M' := M) rfl ⟨trivial, trivial, trivial, trivial⟩ ?_
        refine G.sub (ls' := [some (.ref 72), some (.int (nI i)), some (.int (nI j)), some (.int (nI (min li lj))), some (.int (nI lo)), some (.int (nI hi)), none, none]) ?_ ⟨rfl, rfl, rfl, rfl, congrArg (fun z => some (Value.int z)) (congrArg nI (by omega)), congrArg (fun z => some (Value.int z)) (congrArg nI (by omega)), trivial⟩
        exact l_mdist3 M hi5 hj5 hord hi1 hj1 (by assumption)
    · have nc2 : i < j := by
        have z : ¬ nI j ≤ nI i := by simpa only [nI_add, pk_mul, nI_s1, n0_lit] using c2
        rw [nI_leI (by omega) (by omega)] at z
        omega
      refine blk 7 [(.iload_n 1, 0, 0, 0), (.goto (4), 89, 0, 0), (.istore 4, 0, 0, 0), (.iload_n 1, 0, 0, 0), (.iload_n 2, 0, 0, 0)] [] (by decide +kernel) rfl (pc' := 93) (ls' := [some (.ref 72), some (.int (nI i)), some (.int (nI j)), some (.int (nI (min li lj))), some (.int (nI i)), none, none, none]) (st' := [.int (nI j), .int (nI i)]) (M' := M) rfl ⟨trivial, trivial, trivial, trivial, trivial, trivial⟩ ?_
      refine g_icmp_ge (off := 7) (tgt := 100) (by decide +kernel) (by decide) (fun c4 => ?_) (fun c4 => ?_)
      · have nc4 : j ≤ i := (nI_leI (by omega) (by omega)).mp (by simpa only [nI_add, pk_mul, nI_s1, n0_lit] using c4)
        refine blk 7 [(.iload_n 1, 0, 0, 0), (.istore 5, 0, 0, 0)] [] (by decide +kernel) rfl (pc' := 103) (ls' := [some (.ref 72), some (.int (nI i)), some (.int (nI j)), some (.int (nI (min li lj))), some (.int (nI i)), some (.int (nI i)), none, none]) (st' := []) (M' := M) rfl ⟨trivial, trivial, trivial⟩ ?_
        refine G.sub (ls' := [some (.ref 72), some (.int (nI i)), some (.int (nI j)), some (.int (nI (min li lj))), some (.int (nI lo)), some (.int (nI hi)), none, none]) ?_ ⟨rfl, rfl, rfl, rfl, congrArg (fun z => some (Value.int z)) (congrArg nI (by omega)), congrArg (fun z => some (Value.int z)) (congrArg nI (by omega)), trivial⟩
        exact l_mdist3 M hi5 hj5 hord hi1 hj1 (by assumption)
      · have nc4 : i < j := by
          have z : ¬ nI j ≤ nI i := by simpa only [nI_add, pk_mul, nI_s1, n0_lit] using c4
          rw [nI_leI (by omega) (by omega)] at z
          omega
        refine blk 7 [(.iload_n 2, 0, 0, 0), (.goto (4), 101, 0, 0), (.istore 5, 0, 0, 0)] [] (by decide +kernel) rfl (pc' := 103) (ls' := [some (.ref 72), some (.int (nI i)), some (.int (nI j)), some (.int (nI (min li lj))), some (.int (nI i)), some (.int (nI j)), none, none]) (st' := []) (M' := M) rfl ⟨trivial, trivial, trivial, trivial⟩ ?_
        refine G.sub (ls' := [some (.ref 72), some (.int (nI i)), some (.int (nI j)), some (.int (nI (min li lj))), some (.int (nI lo)), some (.int (nI hi)), none, none]) ?_ ⟨rfl, rfl, rfl, rfl, congrArg (fun z => some (Value.int z)) (congrArg nI (by omega)), congrArg (fun z => some (Value.int z)) (congrArg nI (by omega)), trivial⟩
        exact l_mdist3 M hi5 hj5 hord hi1 hj1 (by assumption)
  · refine blk 7 [(.iload_n 3, 0, 0, 0), (.iconst 1, 0, 0, (nI 1))] [] (by decide +kernel) rfl (pc' := 51) (ls' := [some (.ref 72), some (.int (nI i)), some (.int (nI j)), some (.int (nI (min li lj))), none, none, none, none]) (st' := [.int (nI 1), .int (nI (min li lj))]) (M' := M) rfl ⟨trivial, trivial, trivial⟩ ?_
    refine g_icmp_ne (off := 9) (tgt := 60) (by decide +kernel) (by decide) (fun c5 => ?_) (fun c5 => ?_)
    · have nc5 : (min li lj) ≠ 1 := by
        have z : ¬ nI (min li lj) = nI 1 := by simpa only [nI_add, pk_mul, nI_s1, n0_lit] using c5
        rw [nI_eq (by omega) (by omega)] at z
        omega
      have nz1 : ¬ nI (min li lj) - nI 1 = 0 := fun z => by obtain ⟨q, hq⟩ : ∃ q, min li lj = q + 1 := ⟨min li lj - 1, by omega⟩; rw [hq, nI_s1] at z; have := (nI_eq (by omega) (by omega)).mp (z.trans nI_0.symm); omega
      refine blk 7 [(.sipush 1000, 0, 0, (nI 1000)), (.sipush 1000, 0, 0, (nI 1000)), (.aload_n 0, 0, 0, 0), (.iload_n 1, 0, 0, 0), (.iload_n 2, 0, 0, 0)] [] (by decide +kernel) rfl (pc' := 69) (ls' := [some (.ref 72), some (.int (nI i)), some (.int (nI j)), some (.int (nI (min li lj))), none, none, none, none]) (st' := [.int (nI j), .int (nI i), .ref 72, .int (nI 1000), .int (nI 1000)]) (M' := M) rfl ⟨trivial, trivial, trivial, trivial, trivial, trivial⟩ ?_
      refine g_callV (s_shared M (i := i) (j := j) (Li := li) (Lj := lj) hi5 hj5 hi1 hj1) ok_X7_distance_X7_shared (by decide +kernel) rfl (c := 7) rfl (by decide) rfl (Nat.le_of_ble_eq_true rfl) (fun r M' h => ?_) rfl
      obtain ⟨hr, hM⟩ := h
      rw [hr, hM]
      show G _ 72 [some (.ref 72), some (.int (nI i)), some (.int (nI j)), some (.int (nI (min li lj))), none, none, none, none] [.int (psum (shF M i j li lj) 16), .int (nI 1000), .int (nI 1000)] M _
      refine blk 7 [(.imul, 0, 0, 0), (.iload_n 3, 0, 0, 0), (.iconst 1, 0, 0, (nI 1)), (.isub, 0, 0, 0), (.idiv, 0, 0, 0), (.isub, 0, 0, 0)] [] (by decide +kernel) rfl (pc' := 78) (ls' := [some (.ref 72), some (.int (nI i)), some (.int (nI j)), some (.int (nI (min li lj))), none, none, none, none]) (st' := [.int ((nI 1000) - (((nI 1000) * (psum (shF M i j li lj) 16)) / ((nI (min li lj)) - (nI 1))))]) (M' := M) rfl ⟨trivial, trivial, trivial, trivial, nz1, trivial, trivial⟩ ?_
      refine g_ireturn (by decide +kernel) rfl rfl ⟨_, rfl, Or.inr ⟨by assumption, rfl, ?_⟩⟩
      rw [if_neg (by omega)]
    · have nc5 : (min li lj) = 1 := (nI_eq (by omega) (by omega)).mp (by simpa only [nI_add, pk_mul, nI_s1, n0_lit] using c5)
      refine blk 7 [(.sipush 1000, 0, 0, (nI 1000)), (.goto (21), 78, 0, 0)] [] (by decide +kernel) rfl (pc' := 78) (ls' := [some (.ref 72), some (.int (nI i)), some (.int (nI j)), some (.int (nI (min li lj))), none, none, none, none]) (st' := [.int (nI 1000)]) (M' := M) rfl ⟨trivial, trivial, trivial⟩ ?_
      refine g_ireturn (by decide +kernel) rfl rfl ⟨_, rfl, Or.inr ⟨by assumption, rfl, ?_⟩⟩
      rw [if_pos (by omega)]
theorem s_mdist1 (M : Mem) {i j lo hi li lj a b : Nat} (htw : twoB (M 72 0) (nI i) (nI j) = true) (hi5 : i < 5) (hj5 : j < 5) (ho : ord2 i j lo hi li lj a b) (hi1 : mwordOK M i li) (hj1 : mwordOK M j lj) : Spec mX7_distance [.ref 72, .int (nI i), .int (nI j)] M (mdP M i j lo hi li lj a b) := by
  have hl1 := hi1.2.2.1
  have hl2 := hj1.2.2.1
  refine Spec.of (by decide) (by simp [Value.category]) (Nat.le_of_ble_eq_true rfl) ?_
  refine blk 7 [(.aload_n 0, 0, 0, 0), (.iload_n 1, 0, 0, 0), (.iload_n 2, 0, 0, 0)] [] (by decide +kernel) rfl (pc' := 3) (ls' := [some (.ref 72), some (.int (nI i)), some (.int (nI j)), none, none, none, none, none]) (st' := [.int (nI j), .int (nI i), .ref 72]) (M' := M) rfl ⟨trivial, trivial, trivial, trivial⟩ ?_
  refine g_callV (s_areTwo _ _ _) ok_X7_distance_X7_areTwo (by decide +kernel) rfl (c := 7) rfl (by decide) rfl (Nat.le_of_ble_eq_true rfl) (fun r M' h => ?_) rfl
  obtain ⟨hr, hM⟩ := h
  rw [hr, hM]
  show G _ 6 [some (.ref 72), some (.int (nI i)), some (.int (nI j)), none, none, none, none, none] [.int (bI (twoB (M 72 0) (nI i) (nI j)))] M _
  refine g_if_ne (off := 5) (tgt := 11) (by decide +kernel) (by decide) (fun c1 => ?_) (fun c1 => ?_)
  · refine blk 7 [(.aload_n 0, 0, 0, 0), (.getfield 7, 7, 1, 0), (.iload_n 1, 0, 0, 0), (.iaload, 0, 0, 0), (.aload_n 0, 0, 0, 0), (.getfield 7, 7, 1, 0), (.iload_n 2, 0, 0, 0), (.iaload, 0, 0, 0)] [i, j] (by decide +kernel) rfl (pc' := 23) (ls' := [some (.ref 72), some (.int (nI i)), some (.int (nI j)), none, none, none, none, none]) (st' := [.int (M 73 j), .int (M 73 i)]) (M' := M) rfl ⟨trivial, rfl, trivial, ⟨rfl, (by show _ < 5; omega)⟩, trivial, rfl, trivial, ⟨rfl, (by show _ < 5; omega)⟩, trivial⟩ ?_
    refine g_icmp_ge (off := 12) (tgt := 35) (by decide +kernel) (by decide) (fun c2 => ?_) (fun c2 => ?_)
    · have nc2 : lj ≤ li := (nI_leI (by omega) (by omega)).mp (by simpa only [hi1.1, hj1.1, nI_add, pk_mul, nI_s1, n0_lit] using c2)
      refine blk 7 [(.aload_n 0, 0, 0, 0), (.getfield 7, 7, 1, 0), (.iload_n 2, 0, 0, 0), (.iaload, 0, 0, 0), (.istore_n 3, 0, 0, 0)] [j] (by decide +kernel) rfl (pc' := 42) (ls' := [some (.ref 72), some (.int (nI i)), some (.int (nI j)), some (.int (M 73 j)), none, none, none, none]) (st' := []) (M' := M) rfl ⟨trivial, rfl, trivial, ⟨rfl, (by show _ < 5; omega)⟩, trivial, trivial⟩ ?_
      refine G.sub (ls' := [some (.ref 72), some (.int (nI i)), some (.int (nI j)), some (.int (nI (min li lj))), none, none, none, none]) ?_ ⟨rfl, rfl, rfl, congrArg (fun z => some (Value.int z)) (by first | (rw [hi1.1, Nat.min_eq_left (by omega)]; done) | rw [hj1.1, Nat.min_eq_right (by omega)]), trivial⟩
      exact l_mdist2 M hi5 hj5 ho hi1 hj1
    · have nc2 : li < lj := by
        have z : ¬ nI lj ≤ nI li := by simpa only [hi1.1, hj1.1, nI_add, pk_mul, nI_s1, n0_lit] using c2
        rw [nI_leI (by omega) (by omega)] at z
        omega
      refine blk 7 [(.aload_n 0, 0, 0, 0), (.getfield 7, 7, 1, 0), (.iload_n 1, 0, 0, 0), (.iaload, 0, 0, 0), (.goto (9), 41, 0, 0), (.istore_n 3, 0, 0, 0)] [i] (by decide +kernel) rfl (pc' := 42) (ls' := [some (.ref 72), some (.int (nI i)), some (.int (nI j)), some (.int (M 73 i)), none, none, none, none]) (st' := []) (M' := M) rfl ⟨trivial, rfl, trivial, ⟨rfl, (by show _ < 5; omega)⟩, trivial, trivial, trivial⟩ ?_
      refine G.sub (ls' := [some (.ref 72), some (.int (nI i)), some (.int (nI j)), some (.int (nI (min li lj))), none, none, none, none]) ?_ ⟨rfl, rfl, rfl, congrArg (fun z => some (Value.int z)) (by first | (rw [hi1.1, Nat.min_eq_left (by omega)]; done) | rw [hj1.1, Nat.min_eq_right (by omega)]), trivial⟩
      exact l_mdist2 M hi5 hj5 ho hi1 hj1
  · refine blk 7 [(.iconst (-1), 0, 0, (-1))] [] (by decide +kernel) rfl (pc' := 10) (ls' := [some (.ref 72), some (.int (nI i)), some (.int (nI j)), none, none, none, none, none]) (st' := [.int (-1)]) (M' := M) rfl ⟨trivial, trivial⟩ ?_
    exact absurd (bI_eq c1) (by rw [htw]; decide)
