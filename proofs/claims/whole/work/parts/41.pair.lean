/-! two words merged by the reference; pair -/
def mwordOK (M : Mem) (i l : Nat) : Prop := M 73 i = nI l ∧ 1 ≤ l ∧ l ≤ 12 ∧ ∀ k, k < l → ∃ a, a < 4 ∧ M 74 (12 * i + k) = nI a
def mmwP (M : Mem) (i j li lj : Nat) : Option Value → Mem → Prop := fun r F => ∃ D : Mem, D 72 25 = bit i ∧ D 72 26 = bit j ∧ D 72 27 = nI li ∧ D 72 28 = nI lj ∧ (∀ k, k < li → D 90 (60 * i + k) = M 74 (12 * i + k)) ∧ (∀ k, k < lj → D 91 (60 * j + k) = M 74 (12 * j + k)) ∧ (∀ a, a < 5 → D 39 a = 1) ∧ (∀ f, (f < 25 ∨ 28 < f) → D 72 f = M 72 f) ∧ (∀ z, z ≠ 72 → z ≠ 90 → z ≠ 91 → z ≠ 39 → D z = M z) ∧ mergeP D li lj r F
theorem s_mmw (M : Mem) {i j li lj : Nat} (hi : i < 5) (hj : j < 5) (hi1 : mwordOK M i li) (hj1 : mwordOK M j lj) : Spec mX7_mergeWords [.ref 72, .int (nI i), .int (nI j)] M (mmwP M i j li lj) := by
  have hl1 := hi1.2.2.1
  have hl2 := hj1.2.2.1
  refine Spec.of (by decide) (by simp [Value.category]) (Nat.le_of_ble_eq_true rfl) ?_
  refine blk 7 [(.aload_n 0, 0, 0, 0)] [] (by decide +kernel) rfl (pc' := 1) (ls' := [some (.ref 72), some (.int (nI i)), some (.int (nI j))]) (st' := [.ref 72]) (M' := M) rfl ⟨trivial, trivial⟩ ?_
  refine g_callV (s_plain M) ok_X7_mergeWords_X7_plainFactors (by decide +kernel) rfl (c := 7) rfl (by decide) rfl (Nat.le_of_ble_eq_true rfl) (fun r A h => ?_) rfl
  obtain ⟨hr, A1, A2⟩ := h
  rw [hr]
  show G _ 4 [some (.ref 72), some (.int (nI i)), some (.int (nI j))] [] A _
  refine blk 7 [(.aload_n 0, 0, 0, 0), (.iconst 1, 0, 0, (nI 1)), (.iload_n 1, 0, 0, 0)] [] (by decide +kernel) rfl (pc' := 7) (ls' := [some (.ref 72), some (.int (nI i)), some (.int (nI j))]) (st' := [.int (nI i), .int (nI 1), .ref 72]) (M' := A) rfl ⟨trivial, trivial, trivial, trivial⟩ ?_
  refine g_callV (s_alone1 A (i := i) (n := li) hi hi1.2.2.1 (by rw [A2 73 (by decide)]; exact hi1.1)) ok_X7_mergeWords_X7_alone (by decide +kernel) rfl (c := 7) rfl (by decide) rfl (Nat.le_of_ble_eq_true rfl) (fun r B h => ?_) rfl
  obtain ⟨hr, B1, B2, B3, B4, B5⟩ := h
  rw [hr]
  show G _ 10 [some (.ref 72), some (.int (nI i)), some (.int (nI j))] [] B _
  refine blk 7 [(.aload_n 0, 0, 0, 0), (.iconst 0, 0, 0, (nI 0)), (.iload_n 2, 0, 0, 0)] [] (by decide +kernel) rfl (pc' := 13) (ls' := [some (.ref 72), some (.int (nI i)), some (.int (nI j))]) (st' := [.int (nI j), .int (nI 0), .ref 72]) (M' := B) rfl ⟨trivial, trivial, trivial, trivial⟩ ?_
  refine g_callV (s_alone0 B (i := j) (n := lj) hj hj1.2.2.1 (by rw [B5 73 (by decide) (by decide), A2 73 (by decide)]; exact hj1.1)) ok_X7_mergeWords_X7_alone (by decide +kernel) rfl (c := 7) rfl (by decide) rfl (Nat.le_of_ble_eq_true rfl) (fun r D h => ?_) rfl
  obtain ⟨hr, D1, D2, D3, D4, D5⟩ := h
  rw [hr]
  have d25 : D 72 25 = bit i := by rw [D4 25 (by decide) (by decide)]; exact B1
  have d27 : D 72 27 = nI li := by rw [D4 27 (by decide) (by decide)]; exact B2
  have d90 : ∀ k, k < li → D 90 (60 * i + k) = M 74 (12 * i + k) := fun k hk => by rw [D5 90 (by decide) (by decide), B3 k hk, A2 74 (by decide)]
  have d91 : ∀ k, k < lj → D 91 (60 * j + k) = M 74 (12 * j + k) := fun k hk => by rw [D3 k hk, B5 74 (by decide) (by decide), A2 74 (by decide)]
  have d39 : ∀ a, a < 5 → D 39 a = 1 := fun a ha => by rw [D5 39 (by decide) (by decide), B5 39 (by decide) (by decide)]; exact A1 a ha
  have d72 : ∀ f, (f < 25 ∨ 28 < f) → D 72 f = M 72 f := fun f hf => by rw [D4 f (by omega) (by omega), B4 f (by omega) (by omega), A2 72 (by decide)]
  have dz : ∀ z, z ≠ 72 → z ≠ 90 → z ≠ 91 → z ≠ 39 → D z = M z := fun z z1 z2 z3 z4 => by rw [D5 z z1 z3, B5 z z1 z2, A2 z z4]
  show G _ 16 [some (.ref 72), some (.int (nI i)), some (.int (nI j))] [] D _
  refine blk 7 [(.aload_n 0, 0, 0, 0)] [] (by decide +kernel) rfl (pc' := 17) (ls' := [some (.ref 72), some (.int (nI i)), some (.int (nI j))]) (st' := [.ref 72]) (M' := D) rfl ⟨trivial, trivial⟩ ?_
  refine g_callV (s_mmerge D (p := li) (q := lj) (by omega) (by omega) (by omega) ⟨fun v k hv hk h => ?_, fun v k hv hk h => ?_⟩ d27 D2) ok_X7_mergeWords_X7_merge (by decide +kernel) rfl (c := 7) rfl (by decide) rfl (Nat.le_of_ble_eq_true rfl) (fun r F h => ?_) rfl
  · rw [d25] at h; rw [(hb_bit_ne hi hv).mp h, d90 k hk]; exact Or.inr (hi1.2.2.2 k hk)
  · rw [show D 72 26 = bit j from D1] at h; rw [(hb_bit_ne hj hv).mp h, d91 k hk]; exact Or.inr (hj1.2.2.2 k hk)
  have hF := h
  obtain ⟨_, T, _, _, _, _, _, hr, _⟩ := h
  rw [hr]
  show G _ 20 [some (.ref 72), some (.int (nI i)), some (.int (nI j))] [.int (T 40 0)] F _
  exact g_ireturn (by decide +kernel) rfl rfl ⟨D, d25, D1, d27, D2, d90, d91, d39, d72, dz, by rw [← hr]; exact hF⟩
theorem s_pair0 (M : Mem) {i j : Int32} (hno : twoB (M 0 7) i j = false) : Spec mX6_pair [.ref 0, .int i, .int j] M (Ret (-1000000) M) := by
  refine Spec.of (by decide) (by simp [Value.category]) (Nat.le_of_ble_eq_true rfl) ?_
  refine blk 6 [(.aload_n 0, 0, 0, 0), (.iload_n 1, 0, 0, 0), (.iload_n 2, 0, 0, 0)] [] (by decide +kernel) rfl (pc' := 3) (ls' := [some (.ref 0), some (.int i), some (.int j)]) (st' := [.int j, .int i, .ref 0]) (M' := M) rfl ⟨trivial, trivial, trivial, trivial⟩ ?_
  refine g_callV (s_areTwoWords _ i j) ok_X6_pair_X6_areTwoWords (by decide +kernel) rfl (c := 6) rfl (by decide) rfl (Nat.le_of_ble_eq_true rfl) (fun r M' h => ?_) rfl
  obtain ⟨hr, hM⟩ := h
  rw [hr, hM]
  show G _ 6 [some (.ref 0), some (.int i), some (.int j)] [.int (bI (twoB (M 0 7) i j))] M _
  refine g_if_eq (off := 12) (tgt := 18) (by decide +kernel) (by decide) (fun c1 => ?_) (fun c1 => ?_)
  · refine blk 6 [(.ldc 104, 0, 0, (-1000000))] [] (by decide +kernel) rfl (pc' := 20) (ls' := [some (.ref 0), some (.int i), some (.int j)]) (st' := [.int (-1000000)]) (M' := M) rfl ⟨trivial, trivial⟩ ?_
    exact g_ireturn (by decide +kernel) rfl rfl ⟨rfl, rfl⟩
  · exact absurd (bI_ne c1) (by rw [hno]; decide)
theorem s_pair1_35 (M : Mem) {i j li lj : Nat} (htw : twoB (M 0 7) (nI i) (nI j) = true) (hT : (M 0 6).toNatClampNeg = 35) (hi : i < 5) (hj : j < 5) (hij : i ≠ j) (hi1 : wordOK M i li) (hj1 : wordOK M j lj) (h97 : ∀ a, a < 5 → M 97 a = 1) (hsc : ∀ k, k < 16 → sm 20 (M 3 k)) (hop : ps 20 (M 2 1)) (hex : ps 20 (M 2 2)) : Spec mX6_pair [.ref 0, .int (nI i), .int (nI j)] M (motP M 51 i j li lj) := by
  refine Spec.of (by decide) (by simp [Value.category]) (Nat.le_of_ble_eq_true rfl) ?_
  refine blk 6 [(.aload_n 0, 0, 0, 0), (.iload_n 1, 0, 0, 0), (.iload_n 2, 0, 0, 0)] [] (by decide +kernel) rfl (pc' := 3) (ls' := [some (.ref 0), some (.int (nI i)), some (.int (nI j))]) (st' := [.int (nI j), .int (nI i), .ref 0]) (M' := M) rfl ⟨trivial, trivial, trivial, trivial⟩ ?_
  refine g_callV (s_areTwoWords _ (nI i) (nI j)) ok_X6_pair_X6_areTwoWords (by decide +kernel) rfl (c := 6) rfl (by decide) rfl (Nat.le_of_ble_eq_true rfl) (fun r M' h => ?_) rfl
  obtain ⟨hr, hM⟩ := h
  rw [hr, hM]
  show G _ 6 [some (.ref 0), some (.int (nI i)), some (.int (nI j))] [.int (bI (twoB (M 0 7) (nI i) (nI j)))] M _
  refine g_if_eq (off := 12) (tgt := 18) (by decide +kernel) (by decide) (fun c1 => ?_) (fun c1 => ?_)
  · refine blk 6 [(.ldc 104, 0, 0, (-1000000))] [] (by decide +kernel) rfl (pc' := 20) (ls' := [some (.ref 0), some (.int (nI i)), some (.int (nI j))]) (st' := [.int (-1000000)]) (M' := M) rfl ⟨trivial, trivial⟩ ?_
    exact absurd (bI_eq c1) (by rw [htw]; decide)
  · refine blk 6 [(.aload_n 0, 0, 0, 0), (.iload_n 1, 0, 0, 0), (.iload_n 2, 0, 0, 0)] [] (by decide +kernel) rfl (pc' := 12) (ls' := [some (.ref 0), some (.int (nI i)), some (.int (nI j))]) (st' := [.int (nI j), .int (nI i), .ref 0]) (M' := M) rfl ⟨trivial, trivial, trivial, trivial⟩ ?_
    refine g_callV (s_mot35 M (i := i) (j := j) (li := li) (lj := lj) hT hi hj hij hi1 hj1 h97 hsc hop hex) ok_X6_pair_X6_mergeOnTrial (by decide +kernel) rfl (c := 6) rfl (by decide) rfl (Nat.le_of_ble_eq_true rfl) (fun r F h => ?_) rfl
    have hF := h
    obtain ⟨_, _, _, _, _, _, _, T, _, _, _, _, _, _, hr, _⟩ := h
    rw [hr]
    show G _ 15 [some (.ref 0), some (.int (nI i)), some (.int (nI j))] [.int (T 12 0)] F _
    refine blk 6 [(.goto (5), 20, 0, 0)] [] (by decide +kernel) rfl (pc' := 20) (ls' := [some (.ref 0), some (.int (nI i)), some (.int (nI j))]) (st' := [.int (T 12 0)]) (M' := F) rfl ⟨trivial, trivial⟩ ?_
    exact g_ireturn (by decide +kernel) rfl rfl (by rw [← hr]; exact hF)
theorem s_pair1_37 (M : Mem) {i j li lj : Nat} (htw : twoB (M 0 7) (nI i) (nI j) = true) (hT : (M 0 6).toNatClampNeg = 37) (hi : i < 5) (hj : j < 5) (hij : i ≠ j) (hi1 : wordOK M i li) (hj1 : wordOK M j lj) (h97 : ∀ a, a < 5 → M 97 a = 1) (hsc : ∀ k, k < 16 → sm 20 (M 3 k)) (hop : ps 20 (M 2 1)) (hex : ps 20 (M 2 2)) : Spec mX6_pair [.ref 0, .int (nI i), .int (nI j)] M (motP M 61 i j li lj) := by
  refine Spec.of (by decide) (by simp [Value.category]) (Nat.le_of_ble_eq_true rfl) ?_
  refine blk 6 [(.aload_n 0, 0, 0, 0), (.iload_n 1, 0, 0, 0), (.iload_n 2, 0, 0, 0)] [] (by decide +kernel) rfl (pc' := 3) (ls' := [some (.ref 0), some (.int (nI i)), some (.int (nI j))]) (st' := [.int (nI j), .int (nI i), .ref 0]) (M' := M) rfl ⟨trivial, trivial, trivial, trivial⟩ ?_
  refine g_callV (s_areTwoWords _ (nI i) (nI j)) ok_X6_pair_X6_areTwoWords (by decide +kernel) rfl (c := 6) rfl (by decide) rfl (Nat.le_of_ble_eq_true rfl) (fun r M' h => ?_) rfl
  obtain ⟨hr, hM⟩ := h
  rw [hr, hM]
  show G _ 6 [some (.ref 0), some (.int (nI i)), some (.int (nI j))] [.int (bI (twoB (M 0 7) (nI i) (nI j)))] M _
  refine g_if_eq (off := 12) (tgt := 18) (by decide +kernel) (by decide) (fun c1 => ?_) (fun c1 => ?_)
  · refine blk 6 [(.ldc 104, 0, 0, (-1000000))] [] (by decide +kernel) rfl (pc' := 20) (ls' := [some (.ref 0), some (.int (nI i)), some (.int (nI j))]) (st' := [.int (-1000000)]) (M' := M) rfl ⟨trivial, trivial⟩ ?_
    exact absurd (bI_eq c1) (by rw [htw]; decide)
  · refine blk 6 [(.aload_n 0, 0, 0, 0), (.iload_n 1, 0, 0, 0), (.iload_n 2, 0, 0, 0)] [] (by decide +kernel) rfl (pc' := 12) (ls' := [some (.ref 0), some (.int (nI i)), some (.int (nI j))]) (st' := [.int (nI j), .int (nI i), .ref 0]) (M' := M) rfl ⟨trivial, trivial, trivial, trivial⟩ ?_
    refine g_callV (s_mot37 M (i := i) (j := j) (li := li) (lj := lj) hT hi hj hij hi1 hj1 h97 hsc hop hex) ok_X6_pair_X6_mergeOnTrial (by decide +kernel) rfl (c := 6) rfl (by decide) rfl (Nat.le_of_ble_eq_true rfl) (fun r F h => ?_) rfl
    have hF := h
    obtain ⟨_, _, _, _, _, _, _, T, _, _, _, _, _, _, hr, _⟩ := h
    rw [hr]
    show G _ 15 [some (.ref 0), some (.int (nI i)), some (.int (nI j))] [.int (T 12 0)] F _
    refine blk 6 [(.goto (5), 20, 0, 0)] [] (by decide +kernel) rfl (pc' := 20) (ls' := [some (.ref 0), some (.int (nI i)), some (.int (nI j))]) (st' := [.int (T 12 0)]) (M' := F) rfl ⟨trivial, trivial⟩ ?_
    exact g_ireturn (by decide +kernel) rfl rfl (by rw [← hr]; exact hF)
theorem s_mpair0 (M : Mem) {i j : Int32} (hno : twoB (M 72 0) i j = false) : Spec mX7_pair [.ref 72, .int i, .int j] M (Ret (-1000000) M) := by
  refine Spec.of (by decide) (by simp [Value.category]) (Nat.le_of_ble_eq_true rfl) ?_
  refine blk 7 [(.aload_n 0, 0, 0, 0), (.iload_n 1, 0, 0, 0), (.iload_n 2, 0, 0, 0)] [] (by decide +kernel) rfl (pc' := 3) (ls' := [some (.ref 72), some (.int i), some (.int j)]) (st' := [.int j, .int i, .ref 72]) (M' := M) rfl ⟨trivial, trivial, trivial, trivial⟩ ?_
  refine g_callV (s_areTwo _ i j) ok_X7_pair_X7_areTwo (by decide +kernel) rfl (c := 7) rfl (by decide) rfl (Nat.le_of_ble_eq_true rfl) (fun r M' h => ?_) rfl
  obtain ⟨hr, hM⟩ := h
  rw [hr, hM]
  show G _ 6 [some (.ref 72), some (.int i), some (.int j)] [.int (bI (twoB (M 72 0) i j))] M _
  refine g_if_eq (off := 12) (tgt := 18) (by decide +kernel) (by decide) (fun c1 => ?_) (fun c1 => ?_)
  · refine blk 7 [(.ldc 181, 0, 0, (-1000000))] [] (by decide +kernel) rfl (pc' := 20) (ls' := [some (.ref 72), some (.int i), some (.int j)]) (st' := [.int (-1000000)]) (M' := M) rfl ⟨trivial, trivial⟩ ?_
    exact g_ireturn (by decide +kernel) rfl rfl ⟨rfl, rfl⟩
  · exact absurd (bI_ne c1) (by rw [hno]; decide)
theorem s_mpair1 (M : Mem) {i j li lj : Nat} (htw : twoB (M 72 0) (nI i) (nI j) = true) (hi : i < 5) (hj : j < 5) (hi1 : mwordOK M i li) (hj1 : mwordOK M j lj) : Spec mX7_pair [.ref 72, .int (nI i), .int (nI j)] M (mmwP M i j li lj) := by
  refine Spec.of (by decide) (by simp [Value.category]) (Nat.le_of_ble_eq_true rfl) ?_
  refine blk 7 [(.aload_n 0, 0, 0, 0), (.iload_n 1, 0, 0, 0), (.iload_n 2, 0, 0, 0)] [] (by decide +kernel) rfl (pc' := 3) (ls' := [some (.ref 72), some (.int (nI i)), some (.int (nI j))]) (st' := [.int (nI j), .int (nI i), .ref 72]) (M' := M) rfl ⟨trivial, trivial, trivial, trivial⟩ ?_
  refine g_callV (s_areTwo _ (nI i) (nI j)) ok_X7_pair_X7_areTwo (by decide +kernel) rfl (c := 7) rfl (by decide) rfl (Nat.le_of_ble_eq_true rfl) (fun r M' h => ?_) rfl
  obtain ⟨hr, hM⟩ := h
  rw [hr, hM]
  show G _ 6 [some (.ref 72), some (.int (nI i)), some (.int (nI j))] [.int (bI (twoB (M 72 0) (nI i) (nI j)))] M _
  refine g_if_eq (off := 12) (tgt := 18) (by decide +kernel) (by decide) (fun c1 => ?_) (fun c1 => ?_)
  · refine blk 7 [(.ldc 181, 0, 0, (-1000000))] [] (by decide +kernel) rfl (pc' := 20) (ls' := [some (.ref 72), some (.int (nI i)), some (.int (nI j))]) (st' := [.int (-1000000)]) (M' := M) rfl ⟨trivial, trivial⟩ ?_
    exact absurd (bI_eq c1) (by rw [htw]; decide)
  · refine blk 7 [(.aload_n 0, 0, 0, 0), (.iload_n 1, 0, 0, 0), (.iload_n 2, 0, 0, 0)] [] (by decide +kernel) rfl (pc' := 12) (ls' := [some (.ref 72), some (.int (nI i)), some (.int (nI j))]) (st' := [.int (nI j), .int (nI i), .ref 72]) (M' := M) rfl ⟨trivial, trivial, trivial, trivial⟩ ?_
    refine g_callV (s_mmw M (i := i) (j := j) (li := li) (lj := lj) hi hj hi1 hj1) ok_X7_pair_X7_mergeWords (by decide +kernel) rfl (c := 7) rfl (by decide) rfl (Nat.le_of_ble_eq_true rfl) (fun r F h => ?_) rfl
    have hF := h
    obtain ⟨_, _, _, _, _, _, _, _, _, _, _, T, _, _, _, _, _, hr, _⟩ := h
    rw [hr]
    show G _ 15 [some (.ref 72), some (.int (nI i)), some (.int (nI j))] [.int (T 40 0)] F _
    refine blk 7 [(.goto (5), 20, 0, 0)] [] (by decide +kernel) rfl (pc' := 20) (ls' := [some (.ref 72), some (.int (nI i)), some (.int (nI j))]) (st' := [.int (T 40 0)]) (M' := F) rfl ⟨trivial, trivial⟩ ?_
    exact g_ireturn (by decide +kernel) rfl rfl (by rw [← hr]; exact hF)
