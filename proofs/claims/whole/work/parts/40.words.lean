/-! two words merged: mergeOnTrial, mergeWords -/
def bit (i : Nat) : Int32 := nI 1 <<< (nI i &&& 31)
theorem hb_bit {i a : Nat} (hi : i < 5) (ha : a < 5) : hb (bit i) a = if a = i then 1 else 0 := (by decide +kernel : ∀ i, i < 5 → ∀ a, a < 5 → hb (bit i) a = if a = i then 1 else 0) i hi a ha
theorem hb_bit_ne {i a : Nat} (hi : i < 5) (ha : a < 5) : ¬ hb (bit i) a = 0 ↔ a = i := by
  rw [hb_bit hi ha]
  by_cases e : a = i
  · rw [if_pos e]; exact ⟨fun _ => e, fun _ => by decide⟩
  · rw [if_neg e]; exact ⟨fun z => absurd rfl z, fun z => absurd z e⟩
/-- a word as its letters -/
def wordOK (M : Mem) (i l : Nat) : Prop := M (41 + i) 1 = nI l ∧ 1 ≤ l ∧ l ≤ 12 ∧ ∀ k, k < l → ∃ a, a < 4 ∧ M (41 + i + 5) k = nI a
def motP (M : Mem) (B i j li lj : Nat) : Option Value → Mem → Prop := fun r F => ∃ C : Mem, C (B + i) 1 = nI li ∧ (∀ k, k < li → C (B + i + 5) k = M (41 + i + 5) k) ∧ C (B + j) 1 = nI lj ∧ (∀ k, k < lj → C (B + j + 5) k = M (41 + j + 5) k) ∧ (∀ z, z ≠ B + i → z ≠ B + i + 5 → z ≠ B + j → z ≠ B + j + 5 → C z = M z) ∧ uniP C B (bit i) (bit j) 97 li lj r F
theorem eq_dataOK {C M : Mem} (h97 : ∀ a, a < 5 → C 97 a = 1) (hsc : ∀ k, k < 16 → sm 20 (C 3 k)) (ho : ps 20 (C 2 1)) (he : ps 20 (C 2 2)) : dataOK C 97 := by
  refine ⟨fun i hi => ?_, hsc, ho, he⟩
  rw [h97 i hi]
  unfold ps
  have : (1 : Int32).toInt = 1 := by decide
  omega
theorem s_mot35 (M : Mem) {i j li lj : Nat} (hT : (M 0 6).toNatClampNeg = 35) (hi : i < 5) (hj : j < 5) (hij : i ≠ j) (hi1 : wordOK M i li) (hj1 : wordOK M j lj) (h97 : ∀ a, a < 5 → M 97 a = 1) (hsc : ∀ k, k < 16 → sm 20 (M 3 k)) (hop : ps 20 (M 2 1)) (hex : ps 20 (M 2 2)) : Spec mX6_mergeOnTrial [.ref 0, .int (nI i), .int (nI j)] M (motP M 51 i j li lj) := by
  have hl1 := hi1.2.2.1
  have hl2 := hj1.2.2.1
  refine Spec.of (by decide) (by simp [Value.category]) (Nat.le_of_ble_eq_true rfl) ?_
  refine blk 6 [(.aload_n 0, 0, 0, 0), (.getfield 52, 6, 6, 0)] [] (by decide +kernel) rfl (pc' := 4) (ls' := [some (.ref 0), some (.int (nI i)), some (.int (nI j))]) (st' := [.ref ((M 0 6).toNatClampNeg)]) (M' := M) rfl ⟨trivial, rfl, trivial⟩ ?_
  rw [show (M 0 6).toNatClampNeg = 35 from hT]
  refine blk 6 [(.getfield 120, 3, 0, 0), (.iload_n 1, 0, 0, 0), (.aaload, 0, 0, 0), (.aload_n 0, 0, 0, 0), (.getfield 11, 6, 0, 0), (.iload_n 1, 0, 0, 0), (.aaload, 0, 0, 0)] [i, i] (by decide +kernel) rfl (pc' := 15) (ls' := [some (.ref 0), some (.int (nI i)), some (.int (nI j))]) (st' := [.ref (41 + i), .ref (51 + i)]) (M' := M) rfl ⟨rfl, trivial, ⟨rfl, (by show _ < 5; omega)⟩, trivial, rfl, trivial, ⟨rfl, (by show _ < 5; omega)⟩, trivial⟩ ?_
  refine g_callV (s_copy M (t := 51 + i) (u := 41 + i) (w := li) (kd51 hi) (kd41 hi) hi1.1 (by rw [al56 hi]; omega) (by rw [al46 hi]; omega) (by omega) (by omega) (kd56 hi) (kd46 hi) (by omega)) ok_X6_mergeOnTrial_X2_copy (by decide +kernel) rfl (c := 2) (kd51 hi) (by decide) rfl (Nat.le_of_ble_eq_true rfl) (fun r A h => ?_) (by rfl)
  obtain ⟨hr, A1, A2, A3⟩ := h
  rw [hr]
  have hwj : A (41 + j) 1 = nI lj := by rw [A3 _ (by omega) (by omega)]; exact hj1.1
  have hTA : (A 0 6).toNatClampNeg = 35 := by rw [A3 0 (by omega) (by omega)]; exact hT
  show G _ 18 [some (.ref 0), some (.int (nI i)), some (.int (nI j))] [] A _
  refine blk 6 [(.aload_n 0, 0, 0, 0), (.getfield 52, 6, 6, 0)] [] (by decide +kernel) rfl (pc' := 22) (ls' := [some (.ref 0), some (.int (nI i)), some (.int (nI j))]) (st' := [.ref ((A 0 6).toNatClampNeg)]) (M' := A) rfl ⟨trivial, rfl, trivial⟩ ?_
  rw [show (A 0 6).toNatClampNeg = 35 from hTA]
  refine blk 6 [(.getfield 120, 3, 0, 0), (.iload_n 2, 0, 0, 0), (.aaload, 0, 0, 0), (.aload_n 0, 0, 0, 0), (.getfield 11, 6, 0, 0), (.iload_n 2, 0, 0, 0), (.aaload, 0, 0, 0)] [j, j] (by decide +kernel) rfl (pc' := 33) (ls' := [some (.ref 0), some (.int (nI i)), some (.int (nI j))]) (st' := [.ref (41 + j), .ref (51 + j)]) (M' := A) rfl ⟨rfl, trivial, ⟨rfl, (by show _ < 5; omega)⟩, trivial, rfl, trivial, ⟨rfl, (by show _ < 5; omega)⟩, trivial⟩ ?_
  refine g_callV (s_copy A (t := 51 + j) (u := 41 + j) (w := lj) (kd51 hj) (kd41 hj) hwj (by rw [al56 hj]; omega) (by rw [al46 hj]; omega) (by omega) (by omega) (kd56 hj) (kd46 hj) (by omega)) ok_X6_mergeOnTrial_X2_copy (by decide +kernel) rfl (c := 2) (kd51 hj) (by decide) rfl (Nat.le_of_ble_eq_true rfl) (fun r C h => ?_) (by rfl)
  obtain ⟨hr, C1, C2, C3⟩ := h
  rw [hr]
  have hTC : (C 0 6).toNatClampNeg = 35 := by rw [C3 0 (by omega) (by omega)]; exact hTA
  have cz : ∀ z, z ≠ 51 + i → z ≠ 51 + i + 5 → z ≠ 51 + j → z ≠ 51 + j + 5 → C z = M z := fun z z1 z2 z3 z4 => by rw [C3 z z3 z4, A3 z z1 z2]
  have c1 : C (51 + i) 1 = nI li := by rw [C3 _ (by omega) (by omega)]; exact A1
  have c2 : ∀ k, k < li → C (51 + i + 5) k = M (41 + i + 5) k := fun k hk => by rw [C3 _ (by omega) (by omega)]; exact A2 k hk
  have c4 : ∀ k, k < lj → C (51 + j + 5) k = M (41 + j + 5) k := fun k hk => by rw [C2 k hk, A3 _ (by omega) (by omega)]
  show G _ 36 [some (.ref 0), some (.int (nI i)), some (.int (nI j))] [] C _
  refine blk 6 [(.aload_n 0, 0, 0, 0), (.getfield 34, 6, 3, 0), (.aload_n 0, 0, 0, 0), (.getfield 52, 6, 6, 0)] [] (by decide +kernel) rfl (pc' := 44) (ls' := [some (.ref 0), some (.int (nI i)), some (.int (nI j))]) (st' := [.ref ((C 0 6).toNatClampNeg), .ref 4]) (M' := C) rfl ⟨trivial, rfl, trivial, rfl, trivial⟩ ?_
  rw [show (C 0 6).toNatClampNeg = 35 from hTC]
  refine blk 6 [(.iconst 1, 0, 0, (nI 1)), (.iload_n 1, 0, 0, 0), (.ishl, 0, 0, 0), (.iconst 1, 0, 0, (nI 1)), (.iload_n 2, 0, 0, 0), (.ishl, 0, 0, 0), (.getstatic 206, 97, 0, 0)] [] (by decide +kernel) rfl (pc' := 53) (ls' := [some (.ref 0), some (.int (nI i)), some (.int (nI j))]) (st' := [.ref 97, .int ((nI 1) <<< ((nI j) &&& 31)), .int ((nI 1) <<< ((nI i) &&& 31)), .ref 35, .ref 4]) (M' := C) rfl ⟨trivial, trivial, trivial, trivial, trivial, trivial, trivial, trivial⟩ ?_
  have hd : dataOK C 97 := eq_dataOK (M := M) (fun a ha => by rw [cz 97 (by omega) (by omega) (by omega) (by omega)]; exact h97 a ha) (fun k hk => by rw [cz 3 (by omega) (by omega) (by omega) (by omega)]; exact hsc k hk) (by rw [cz 2 (by omega) (by omega) (by omega) (by omega)]; exact hop) (by rw [cz 2 (by omega) (by omega) (by omega) (by omega)]; exact hex)
  refine g_callV (s_unite35 C (P := bit i) (Q := bit j) (v := 97) (p := li) (q := lj) (by decide) (by decide) (by omega) (by omega) (by omega) (Nat.le_trans (Nat.mul_le_mul (show li + 1 ≤ 13 by omega) (show lj + 1 ≤ 13 by omega)) (by decide)) (fun a ha h => by rw [(hb_bit_ne hi ha).mp h]; exact c1) (fun a ha h => by rw [(hb_bit_ne hj ha).mp h]; exact C1) (fun a ha h1 h2 => hij (((hb_bit_ne hi ha).mp h1).symm.trans ((hb_bit_ne hj ha).mp h2))) (fun a k ha h hk => by rw [(hb_bit_ne hi ha).mp h, c2 k hk]; exact Or.inr (hi1.2.2.2 k hk)) (fun a k ha h hk => by rw [(hb_bit_ne hj ha).mp h, c4 k hk]; exact Or.inr (hj1.2.2.2 k hk)) ⟨i, hi, (hb_bit_ne hi hi).mpr rfl⟩ ⟨j, hj, (hb_bit_ne hj hj).mpr rfl⟩ (fun R hR => uR_bnd hd hR)) ok_X6_mergeOnTrial_X1_unite (by decide +kernel) rfl (c := 1) rfl (by decide) rfl (Nat.le_of_ble_eq_true rfl) (fun r F h => ?_) rfl
  have hF := h
  obtain ⟨_, T, _, _, _, _, _, _, hr, _⟩ := h
  rw [hr]
  show G _ 56 [some (.ref 0), some (.int (nI i)), some (.int (nI j))] [.int (T 12 0)] F _
  exact g_ireturn (by decide +kernel) rfl rfl ⟨C, c1, c2, C1, c4, cz, by rw [← hr]; exact hF⟩
theorem s_mot37 (M : Mem) {i j li lj : Nat} (hT : (M 0 6).toNatClampNeg = 37) (hi : i < 5) (hj : j < 5) (hij : i ≠ j) (hi1 : wordOK M i li) (hj1 : wordOK M j lj) (h97 : ∀ a, a < 5 → M 97 a = 1) (hsc : ∀ k, k < 16 → sm 20 (M 3 k)) (hop : ps 20 (M 2 1)) (hex : ps 20 (M 2 2)) : Spec mX6_mergeOnTrial [.ref 0, .int (nI i), .int (nI j)] M (motP M 61 i j li lj) := by
  have hl1 := hi1.2.2.1
  have hl2 := hj1.2.2.1
  refine Spec.of (by decide) (by simp [Value.category]) (Nat.le_of_ble_eq_true rfl) ?_
  refine blk 6 [(.aload_n 0, 0, 0, 0), (.getfield 52, 6, 6, 0)] [] (by decide +kernel) rfl (pc' := 4) (ls' := [some (.ref 0), some (.int (nI i)), some (.int (nI j))]) (st' := [.ref ((M 0 6).toNatClampNeg)]) (M' := M) rfl ⟨trivial, rfl, trivial⟩ ?_
  rw [show (M 0 6).toNatClampNeg = 37 from hT]
  refine blk 6 [(.getfield 120, 3, 0, 0), (.iload_n 1, 0, 0, 0), (.aaload, 0, 0, 0), (.aload_n 0, 0, 0, 0), (.getfield 11, 6, 0, 0), (.iload_n 1, 0, 0, 0), (.aaload, 0, 0, 0)] [i, i] (by decide +kernel) rfl (pc' := 15) (ls' := [some (.ref 0), some (.int (nI i)), some (.int (nI j))]) (st' := [.ref (41 + i), .ref (61 + i)]) (M' := M) rfl ⟨rfl, trivial, ⟨rfl, (by show _ < 5; omega)⟩, trivial, rfl, trivial, ⟨rfl, (by show _ < 5; omega)⟩, trivial⟩ ?_
  refine g_callV (s_copy M (t := 61 + i) (u := 41 + i) (w := li) (kd61 hi) (kd41 hi) hi1.1 (by rw [al66 hi]; omega) (by rw [al46 hi]; omega) (by omega) (by omega) (kd66 hi) (kd46 hi) (by omega)) ok_X6_mergeOnTrial_X2_copy (by decide +kernel) rfl (c := 2) (kd61 hi) (by decide) rfl (Nat.le_of_ble_eq_true rfl) (fun r A h => ?_) (by rfl)
  obtain ⟨hr, A1, A2, A3⟩ := h
  rw [hr]
  have hwj : A (41 + j) 1 = nI lj := by rw [A3 _ (by omega) (by omega)]; exact hj1.1
  have hTA : (A 0 6).toNatClampNeg = 37 := by rw [A3 0 (by omega) (by omega)]; exact hT
  show G _ 18 [some (.ref 0), some (.int (nI i)), some (.int (nI j))] [] A _
  refine blk 6 [(.aload_n 0, 0, 0, 0), (.getfield 52, 6, 6, 0)] [] (by decide +kernel) rfl (pc' := 22) (ls' := [some (.ref 0), some (.int (nI i)), some (.int (nI j))]) (st' := [.ref ((A 0 6).toNatClampNeg)]) (M' := A) rfl ⟨trivial, rfl, trivial⟩ ?_
  rw [show (A 0 6).toNatClampNeg = 37 from hTA]
  refine blk 6 [(.getfield 120, 3, 0, 0), (.iload_n 2, 0, 0, 0), (.aaload, 0, 0, 0), (.aload_n 0, 0, 0, 0), (.getfield 11, 6, 0, 0), (.iload_n 2, 0, 0, 0), (.aaload, 0, 0, 0)] [j, j] (by decide +kernel) rfl (pc' := 33) (ls' := [some (.ref 0), some (.int (nI i)), some (.int (nI j))]) (st' := [.ref (41 + j), .ref (61 + j)]) (M' := A) rfl ⟨rfl, trivial, ⟨rfl, (by show _ < 5; omega)⟩, trivial, rfl, trivial, ⟨rfl, (by show _ < 5; omega)⟩, trivial⟩ ?_
  refine g_callV (s_copy A (t := 61 + j) (u := 41 + j) (w := lj) (kd61 hj) (kd41 hj) hwj (by rw [al66 hj]; omega) (by rw [al46 hj]; omega) (by omega) (by omega) (kd66 hj) (kd46 hj) (by omega)) ok_X6_mergeOnTrial_X2_copy (by decide +kernel) rfl (c := 2) (kd61 hj) (by decide) rfl (Nat.le_of_ble_eq_true rfl) (fun r C h => ?_) (by rfl)
  obtain ⟨hr, C1, C2, C3⟩ := h
  rw [hr]
  have hTC : (C 0 6).toNatClampNeg = 37 := by rw [C3 0 (by omega) (by omega)]; exact hTA
  have cz : ∀ z, z ≠ 61 + i → z ≠ 61 + i + 5 → z ≠ 61 + j → z ≠ 61 + j + 5 → C z = M z := fun z z1 z2 z3 z4 => by rw [C3 z z3 z4, A3 z z1 z2]
  have c1 : C (61 + i) 1 = nI li := by rw [C3 _ (by omega) (by omega)]; exact A1
  have c2 : ∀ k, k < li → C (61 + i + 5) k = M (41 + i + 5) k := fun k hk => by rw [C3 _ (by omega) (by omega)]; exact A2 k hk
  have c4 : ∀ k, k < lj → C (61 + j + 5) k = M (41 + j + 5) k := fun k hk => by rw [C2 k hk, A3 _ (by omega) (by omega)]
  show G _ 36 [some (.ref 0), some (.int (nI i)), some (.int (nI j))] [] C _
  refine blk 6 [(.aload_n 0, 0, 0, 0), (.getfield 34, 6, 3, 0), (.aload_n 0, 0, 0, 0), (.getfield 52, 6, 6, 0)] [] (by decide +kernel) rfl (pc' := 44) (ls' := [some (.ref 0), some (.int (nI i)), some (.int (nI j))]) (st' := [.ref ((C 0 6).toNatClampNeg), .ref 4]) (M' := C) rfl ⟨trivial, rfl, trivial, rfl, trivial⟩ ?_
  rw [show (C 0 6).toNatClampNeg = 37 from hTC]
  refine blk 6 [(.iconst 1, 0, 0, (nI 1)), (.iload_n 1, 0, 0, 0), (.ishl, 0, 0, 0), (.iconst 1, 0, 0, (nI 1)), (.iload_n 2, 0, 0, 0), (.ishl, 0, 0, 0), (.getstatic 206, 97, 0, 0)] [] (by decide +kernel) rfl (pc' := 53) (ls' := [some (.ref 0), some (.int (nI i)), some (.int (nI j))]) (st' := [.ref 97, .int ((nI 1) <<< ((nI j) &&& 31)), .int ((nI 1) <<< ((nI i) &&& 31)), .ref 37, .ref 4]) (M' := C) rfl ⟨trivial, trivial, trivial, trivial, trivial, trivial, trivial, trivial⟩ ?_
  have hd : dataOK C 97 := eq_dataOK (M := M) (fun a ha => by rw [cz 97 (by omega) (by omega) (by omega) (by omega)]; exact h97 a ha) (fun k hk => by rw [cz 3 (by omega) (by omega) (by omega) (by omega)]; exact hsc k hk) (by rw [cz 2 (by omega) (by omega) (by omega) (by omega)]; exact hop) (by rw [cz 2 (by omega) (by omega) (by omega) (by omega)]; exact hex)
  refine g_callV (s_unite37 C (P := bit i) (Q := bit j) (v := 97) (p := li) (q := lj) (by decide) (by decide) (by omega) (by omega) (by omega) (Nat.le_trans (Nat.mul_le_mul (show li + 1 ≤ 13 by omega) (show lj + 1 ≤ 13 by omega)) (by decide)) (fun a ha h => by rw [(hb_bit_ne hi ha).mp h]; exact c1) (fun a ha h => by rw [(hb_bit_ne hj ha).mp h]; exact C1) (fun a ha h1 h2 => hij (((hb_bit_ne hi ha).mp h1).symm.trans ((hb_bit_ne hj ha).mp h2))) (fun a k ha h hk => by rw [(hb_bit_ne hi ha).mp h, c2 k hk]; exact Or.inr (hi1.2.2.2 k hk)) (fun a k ha h hk => by rw [(hb_bit_ne hj ha).mp h, c4 k hk]; exact Or.inr (hj1.2.2.2 k hk)) ⟨i, hi, (hb_bit_ne hi hi).mpr rfl⟩ ⟨j, hj, (hb_bit_ne hj hj).mpr rfl⟩ (fun R hR => uR_bnd hd hR)) ok_X6_mergeOnTrial_X1_unite (by decide +kernel) rfl (c := 1) rfl (by decide) rfl (Nat.le_of_ble_eq_true rfl) (fun r F h => ?_) rfl
  have hF := h
  obtain ⟨_, T, _, _, _, _, _, _, hr, _⟩ := h
  rw [hr]
  show G _ 56 [some (.ref 0), some (.int (nI i)), some (.int (nI j))] [.int (T 12 0)] F _
  exact g_ireturn (by decide +kernel) rfl rfl ⟨C, c1, c2, C1, c4, cz, by rw [← hr]; exact hF⟩
