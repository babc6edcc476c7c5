/-! Merger.fill -/
theorem al12 {l : Nat} (h : l < 3) : al (12 + l) = 925 := (by decide : ∀ l, l < 3 → al (12 + l) = 925) l h
/-- the worth of the rest from i, j on, after a step l -/
def dpv (M : Mem) (p q i j l : Nat) : Int32 := if i = p ∧ j = q then 0 else waV (lkB M p q i j) (lkL M p q i j) (lkR M p q i j) (M 4 6) l (chV (lkB M p q i j) (lkL M p q i j) (lkR M p q i j) (M 4 6) l)
def filP (M : Mem) (p q i j : Nat) : Option Value → Mem → Prop := fun r N => r = none ∧ (∀ l, l < 3 → N (12 + l) (i * (q + 1) + j) = dpv M p q i j l) ∧ (∀ l k, l < 3 → k ≠ i * (q + 1) + j → N (12 + l) k = M (12 + l) k) ∧ N 4 5 = M 4 5 ∧ N 4 6 = M 4 6 ∧ ∀ z, z ≠ 4 → (z < 12 ∨ 14 < z) → N z = M z
theorem l_fill1 {M L : Mem} {p q i j : Nat} (hm : mrg M p q) (hi : i ≤ p) (hj : j ≤ q) (he : (i = p ∧ j = q)) (l7 : L 4 7 = lkB M p q i j) (l8 : L 4 8 = lkL M p q i j) (l9 : L 4 9 = lkR M p q i j) (l5 : L 4 5 = M 4 5) (l6 : L 4 6 = M 4 6) (lz : ∀ z, z ≠ 4 → L z = M z) : ∀ d l N, d = 3 - l → l ≤ 3 → (∀ a, a < l → N (12 + a) (i * (q + 1) + j) = dpv M p q i j a) → (∀ a k, a < 3 → k ≠ i * (q + 1) + j → N (12 + a) k = L (12 + a) k) → (∀ z, (z < 12 ∨ 14 < z) → N z = L z) → G mX1_fill 37 [some (.ref 4), some (.int (nI i)), some (.int (nI j)), some (.int (nI 1)), some (.int (nI l))] [] N (filP M p q i j) := by
  have ⟨m1, m2, m3, m4, h5⟩ := hm
  intro d
  induction d using Nat.strongRecOn with
  | ind d ih =>
    intro l N hd hl h1' h2' h0
    have hq : N 8 3 = nI q := by rw [h0 8 (by omega), lz 8 (by decide)]; exact m2
    refine blk 1 [(.iload 4, 0, 0, 0), (.iconst 2, 0, 0, (nI 2))] [] (by decide +kernel) rfl (pc' := 40) (ls' := [some (.ref 4), some (.int (nI i)), some (.int (nI j)), some (.int (nI 1)), some (.int (nI l))]) (st' := [.int (nI 2), .int (nI l)]) (M' := N) rfl ⟨trivial, trivial, trivial⟩ ?_
    refine g_icmp_gt (off := 43) (tgt := 83) (by decide +kernel) (by decide) (fun c1 => ?_) (fun c1 => ?_)
    · have nc1 : 2 < l := (nI_ltI (by omega) (by omega)).mp (by simpa only [hq, nI_add, pk_mul, nI_s1, n0_lit] using c1)
      have el : l = 3 := by omega
      subst el
      refine g_return (by decide +kernel) rfl ⟨rfl, h1', fun a k ha hk => ?_, ?_, ?_, fun z h4 h5 => ?_⟩
      · rw [h2' a k ha hk, lz _ (by omega)]
      · rw [h0 4 (by omega)]; exact l5
      · rw [h0 4 (by omega)]; exact l6
      · rw [h0 z h5, lz z h4]
    · have nc1 : l ≤ 2 := by
        have z : ¬ nI 2 < nI l := by simpa only [hq, nI_add, pk_mul, nI_s1, n0_lit] using c1
        rw [nI_ltI (by omega) (by omega)] at z
        omega
      refine blk 1 [(.aload_n 0, 0, 0, 0), (.getfield 23, 1, 3, 0), (.iload 4, 0, 0, 0), (.aaload, 0, 0, 0), (.aload_n 0, 0, 0, 0), (.iload_n 1, 0, 0, 0), (.iload_n 2, 0, 0, 0)] [l] (by decide +kernel) rfl (pc' := 53) (ls' := [some (.ref 4), some (.int (nI i)), some (.int (nI j)), some (.int (nI 1)), some (.int (nI l))]) (st' := [.int (nI j), .int (nI i), .ref 4, .ref (12 + l)]) (M' := N) rfl ⟨trivial, rfl, trivial, ⟨rfl, (by show _ < 3; omega)⟩, trivial, trivial, trivial, trivial⟩ ?_
      refine g_callV (s_place N _ _) ok_X1_fill_X1_place (by decide +kernel) rfl (c := 1) rfl (by decide) rfl (Nat.le_of_ble_eq_true rfl) (fun r M' h => ?_) rfl
      obtain ⟨hr, hM⟩ := h
      rw [hr, hM]
      show G _ 56 [some (.ref 4), some (.int (nI i)), some (.int (nI j)), some (.int (nI 1)), some (.int (nI l))] [.int (nI i * (N 8 3 + nI 1) + nI j), .ref (12 + l)] N _
      refine blk 1 [(.iload_n 3, 0, 0, 0)] [] (by decide +kernel) rfl (pc' := 57) (ls' := [some (.ref 4), some (.int (nI i)), some (.int (nI j)), some (.int (nI 1)), some (.int (nI l))]) (st' := [.int (nI 1), .int (nI i * (N 8 3 + nI 1) + nI j), .ref (12 + l)]) (M' := N) rfl ⟨trivial, trivial⟩ ?_
      refine g_if_eq (off := 7) (tgt := 64) (by decide +kernel) (by decide) (fun c2 => ?_) (fun c2 => ?_)
      · exact absurd c2 (by decide +kernel)
      · refine blk 1 [(.iconst 0, 0, 0, (nI 0)), (.goto (15), 76, 0, 0), (.iastore, 0, 0, 0), (.iinc 4 1, 0, 0, (nI 1)), (.goto (-43), 37, 0, 0)] [i * (q + 1) + j] (by decide +kernel) rfl (pc' := 37) (ls' := [some (.ref 4), some (.int (nI i)), some (.int (nI j)), some (.int (nI 1)), some (.int (nI l + nI 1))]) (st' := []) (M' := stm N (12 + l) (i * (q + 1) + j) (nI 0)) rfl ⟨trivial, trivial, ⟨(by simp only [hq, nI_add, pk_mul, nI_s1, Nat.reduceAdd, Nat.reduceMul]), (Nat.lt_of_lt_of_eq (plc_lt (p := p) hi hj h5) (al12 (l := l) (by omega)).symm), by show 12 + l < 96; omega⟩, trivial, trivial, trivial⟩ ?_
        refine G.sub (ls' := [some (.ref 4), some (.int (nI i)), some (.int (nI j)), some (.int (nI 1)), some (.int (nI (l + 1)))]) ?_ ⟨rfl, rfl, rfl, rfl, congrArg (fun z => some (Value.int z)) (by simp only [nI_add, nI_s1]), trivial⟩
        refine ih (d - 1) (by omega) (l + 1) _ (by omega) (by omega) (fun a ha => ?_) (fun a k ha hk => ?_) (fun z hz => ?_)
        · by_cases ea : a = l
          · subst ea; rw [stm_self]; rw [dpv, if_pos he]; exact nI_0
          · rw [stm_ne (by omega)]; exact h1' a (by omega)
        · by_cases ea : a = l
          · subst ea; rw [stm_off hk]; exact h2' a k (by omega) hk
          · rw [stm_ne (by omega)]; exact h2' a k ha hk
        · rw [stm_ne (by omega)]; exact h0 z hz
theorem l_fill0 {M L : Mem} {p q i j : Nat} (hm : mrg M p q) (hi : i ≤ p) (hj : j ≤ q) (he : ¬ (i = p ∧ j = q)) (l7 : L 4 7 = lkB M p q i j) (l8 : L 4 8 = lkL M p q i j) (l9 : L 4 9 = lkR M p q i j) (l5 : L 4 5 = M 4 5) (l6 : L 4 6 = M 4 6) (lz : ∀ z, z ≠ 4 → L z = M z) : ∀ d l N, d = 3 - l → l ≤ 3 → (∀ a, a < l → N (12 + a) (i * (q + 1) + j) = dpv M p q i j a) → (∀ a k, a < 3 → k ≠ i * (q + 1) + j → N (12 + a) k = L (12 + a) k) → (∀ z, (z < 12 ∨ 14 < z) → N z = L z) → G mX1_fill 37 [some (.ref 4), some (.int (nI i)), some (.int (nI j)), some (.int (nI 0)), some (.int (nI l))] [] N (filP M p q i j) := by
  have ⟨m1, m2, m3, m4, h5⟩ := hm
  intro d
  induction d using Nat.strongRecOn with
  | ind d ih =>
    intro l N hd hl h1' h2' h0
    have hq : N 8 3 = nI q := by rw [h0 8 (by omega), lz 8 (by decide)]; exact m2
    refine blk 1 [(.iload 4, 0, 0, 0), (.iconst 2, 0, 0, (nI 2))] [] (by decide +kernel) rfl (pc' := 40) (ls' := [some (.ref 4), some (.int (nI i)), some (.int (nI j)), some (.int (nI 0)), some (.int (nI l))]) (st' := [.int (nI 2), .int (nI l)]) (M' := N) rfl ⟨trivial, trivial, trivial⟩ ?_
    refine g_icmp_gt (off := 43) (tgt := 83) (by decide +kernel) (by decide) (fun c1 => ?_) (fun c1 => ?_)
    · have nc1 : 2 < l := (nI_ltI (by omega) (by omega)).mp (by simpa only [hq, nI_add, pk_mul, nI_s1, n0_lit] using c1)
      have el : l = 3 := by omega
      subst el
      refine g_return (by decide +kernel) rfl ⟨rfl, h1', fun a k ha hk => ?_, ?_, ?_, fun z h4 h5 => ?_⟩
      · rw [h2' a k ha hk, lz _ (by omega)]
      · rw [h0 4 (by omega)]; exact l5
      · rw [h0 4 (by omega)]; exact l6
      · rw [h0 z h5, lz z h4]
    · have nc1 : l ≤ 2 := by
        have z : ¬ nI 2 < nI l := by simpa only [hq, nI_add, pk_mul, nI_s1, n0_lit] using c1
        rw [nI_ltI (by omega) (by omega)] at z
        omega
      refine blk 1 [(.aload_n 0, 0, 0, 0), (.getfield 23, 1, 3, 0), (.iload 4, 0, 0, 0), (.aaload, 0, 0, 0), (.aload_n 0, 0, 0, 0), (.iload_n 1, 0, 0, 0), (.iload_n 2, 0, 0, 0)] [l] (by decide +kernel) rfl (pc' := 53) (ls' := [some (.ref 4), some (.int (nI i)), some (.int (nI j)), some (.int (nI 0)), some (.int (nI l))]) (st' := [.int (nI j), .int (nI i), .ref 4, .ref (12 + l)]) (M' := N) rfl ⟨trivial, rfl, trivial, ⟨rfl, (by show _ < 3; omega)⟩, trivial, trivial, trivial, trivial⟩ ?_
      refine g_callV (s_place N _ _) ok_X1_fill_X1_place (by decide +kernel) rfl (c := 1) rfl (by decide) rfl (Nat.le_of_ble_eq_true rfl) (fun r M' h => ?_) rfl
      obtain ⟨hr, hM⟩ := h
      rw [hr, hM]
      show G _ 56 [some (.ref 4), some (.int (nI i)), some (.int (nI j)), some (.int (nI 0)), some (.int (nI l))] [.int (nI i * (N 8 3 + nI 1) + nI j), .ref (12 + l)] N _
      refine blk 1 [(.iload_n 3, 0, 0, 0)] [] (by decide +kernel) rfl (pc' := 57) (ls' := [some (.ref 4), some (.int (nI i)), some (.int (nI j)), some (.int (nI 0)), some (.int (nI l))]) (st' := [.int (nI 0), .int (nI i * (N 8 3 + nI 1) + nI j), .ref (12 + l)]) (M' := N) rfl ⟨trivial, trivial⟩ ?_
      refine g_if_eq (off := 7) (tgt := 64) (by decide +kernel) (by decide) (fun c2 => ?_) (fun c2 => ?_)
      · refine blk 1 [(.aload_n 0, 0, 0, 0), (.iload 4, 0, 0, 0), (.aload_n 0, 0, 0, 0), (.iload 4, 0, 0, 0)] [] (by decide +kernel) rfl (pc' := 70) (ls' := [some (.ref 4), some (.int (nI i)), some (.int (nI j)), some (.int (nI 0)), some (.int (nI l))]) (st' := [.int (nI l), .ref 4, .int (nI l), .ref 4, .int (nI i * (N 8 3 + nI 1) + nI j), .ref (12 + l)]) (M' := N) rfl ⟨trivial, trivial, trivial, trivial, trivial⟩ ?_
        refine g_callV (s_choose N (l := l) (by omega)) ok_X1_fill_X1_choose (by decide +kernel) rfl (c := 1) rfl (by decide) rfl (Nat.le_of_ble_eq_true rfl) (fun r M' h => ?_) rfl
        obtain ⟨hr, hM⟩ := h
        rw [hr, hM]
        show G _ 73 [some (.ref 4), some (.int (nI i)), some (.int (nI j)), some (.int (nI 0)), some (.int (nI l))] [.int (nI (chF N l)), .int (nI l), .ref 4, .int (nI i * (N 8 3 + nI 1) + nI j), .ref (12 + l)] N _
        refine g_callV (s_worthAfter N (l := l) (s := chF N l) (by omega) (chV_le _ _ _ _ _)) ok_X1_fill_X1_worthAfter (by decide +kernel) rfl (c := 1) rfl (by decide) rfl (Nat.le_of_ble_eq_true rfl) (fun r M' h => ?_) rfl
        obtain ⟨hr, hM⟩ := h
        rw [hr, hM]
        show G _ 76 [some (.ref 4), some (.int (nI i)), some (.int (nI j)), some (.int (nI 0)), some (.int (nI l))] [.int (waF N l (chF N l)), .int (nI i * (N 8 3 + nI 1) + nI j), .ref (12 + l)] N _
        refine blk 1 [(.iastore, 0, 0, 0), (.iinc 4 1, 0, 0, (nI 1)), (.goto (-43), 37, 0, 0)] [i * (q + 1) + j] (by decide +kernel) rfl (pc' := 37) (ls' := [some (.ref 4), some (.int (nI i)), some (.int (nI j)), some (.int (nI 0)), some (.int (nI l + nI 1))]) (st' := []) (M' := stm N (12 + l) (i * (q + 1) + j) (waF N l (chF N l))) rfl ⟨⟨(by simp only [hq, nI_add, pk_mul, nI_s1, Nat.reduceAdd, Nat.reduceMul]), (Nat.lt_of_lt_of_eq (plc_lt (p := p) hi hj h5) (al12 (l := l) (by omega)).symm), by show 12 + l < 96; omega⟩, trivial, trivial, trivial⟩ ?_
        refine G.sub (ls' := [some (.ref 4), some (.int (nI i)), some (.int (nI j)), some (.int (nI 0)), some (.int (nI (l + 1)))]) ?_ ⟨rfl, rfl, rfl, rfl, congrArg (fun z => some (Value.int z)) (by simp only [nI_add, nI_s1]), trivial⟩
        refine ih (d - 1) (by omega) (l + 1) _ (by omega) (by omega) (fun a ha => ?_) (fun a k ha hk => ?_) (fun z hz => ?_)
        · by_cases ea : a = l
          · subst ea; rw [stm_self]; rw [dpv, if_neg he]; unfold waF chF; rw [h0 4 (by omega), l7, l8, l9, l6]
          · rw [stm_ne (by omega)]; exact h1' a (by omega)
        · by_cases ea : a = l
          · subst ea; rw [stm_off hk]; exact h2' a k (by omega) hk
          · rw [stm_ne (by omega)]; exact h2' a k ha hk
        · rw [stm_ne (by omega)]; exact h0 z hz
      · exact absurd (by decide +kernel) c2
theorem s_mfill (M : Mem) {p q i j : Nat} (hm : mrg M p q) (hi : i ≤ p) (hj : j ≤ q) : Spec mX1_fill [.ref 4, .int (nI i), .int (nI j)] M (filP M p q i j) := by
  have ⟨m1, m2, m3, m4, h5⟩ := hm
  refine Spec.of (by decide) (by simp [Value.category]) (Nat.le_of_ble_eq_true rfl) ?_
  refine blk 1 [(.iload_n 1, 0, 0, 0), (.aload_n 0, 0, 0, 0), (.getfield 12, 1, 1, 0), (.getfield 50, 4, 3, 0)] [] (by decide +kernel) rfl (pc' := 8) (ls' := [some (.ref 4), some (.int (nI i)), some (.int (nI j)), none, none]) (st' := [.int (M 5 3), .int (nI i)]) (M' := M) rfl ⟨trivial, trivial, rfl, rfl, trivial⟩ ?_
  refine g_icmp_ne (off := 18) (tgt := 26) (by decide +kernel) (by decide) (fun c1 => ?_) (fun c1 => ?_)
  · have nc1 : i ≠ p := by
      have z : ¬ nI i = nI p := by simpa only [m1, m2, nI_add, pk_mul, nI_s1, n0_lit] using c1
      rw [nI_eq (by omega) (by omega)] at z
      omega
    refine blk 1 [(.iconst 0, 0, 0, (nI 0)), (.istore_n 3, 0, 0, 0), (.aload_n 0, 0, 0, 0), (.iload_n 1, 0, 0, 0), (.iload_n 2, 0, 0, 0)] [] (by decide +kernel) rfl (pc' := 31) (ls' := [some (.ref 4), some (.int (nI i)), some (.int (nI j)), some (.int (nI 0)), none]) (st' := [.int (nI j), .int (nI i), .ref 4]) (M' := M) rfl ⟨trivial, trivial, trivial, trivial, trivial, trivial⟩ ?_
    refine g_callV (s_look M hm hi hj) ok_X1_fill_X1_look (by decide +kernel) rfl (c := 1) rfl (by decide) rfl (Nat.le_of_ble_eq_true rfl) (fun r L h => ?_) rfl
    obtain ⟨hr, l7, l8, l9, l5, l6, lz⟩ := h
    rw [hr]
    show G _ 34 [some (.ref 4), some (.int (nI i)), some (.int (nI j)), some (.int (nI 0)), none] [] L _
    refine blk 1 [(.iconst 0, 0, 0, (nI 0)), (.istore 4, 0, 0, 0)] [] (by decide +kernel) rfl (pc' := 37) (ls' := [some (.ref 4), some (.int (nI i)), some (.int (nI j)), some (.int (nI 0)), some (.int (nI 0))]) (st' := []) (M' := L) rfl ⟨trivial, trivial, trivial⟩ ?_
    exact l_fill0 hm hi hj (by omega) l7 l8 l9 l5 l6 lz _ 0 L rfl (by omega) (fun a h => absurd h (by omega)) (fun a k _ _ => rfl) (fun z _ => rfl)
  · have nc1 : i = p := (nI_eq (by omega) (by omega)).mp (by simpa only [m1, m2, nI_add, pk_mul, nI_s1, n0_lit] using c1)
    refine blk 1 [(.iload_n 2, 0, 0, 0), (.aload_n 0, 0, 0, 0), (.getfield 18, 1, 2, 0), (.getfield 50, 4, 3, 0)] [] (by decide +kernel) rfl (pc' := 19) (ls' := [some (.ref 4), some (.int (nI i)), some (.int (nI j)), none, none]) (st' := [.int (M 8 3), .int (nI j)]) (M' := M) rfl ⟨trivial, trivial, rfl, rfl, trivial⟩ ?_
    refine g_icmp_ne (off := 7) (tgt := 26) (by decide +kernel) (by decide) (fun c2 => ?_) (fun c2 => ?_)
    · have nc2 : j ≠ q := by
        have z : ¬ nI j = nI q := by simpa only [m1, m2, nI_add, pk_mul, nI_s1, n0_lit] using c2
        rw [nI_eq (by omega) (by omega)] at z
        omega
      refine blk 1 [(.iconst 0, 0, 0, (nI 0)), (.istore_n 3, 0, 0, 0), (.aload_n 0, 0, 0, 0), (.iload_n 1, 0, 0, 0), (.iload_n 2, 0, 0, 0)] [] (by decide +kernel) rfl (pc' := 31) (ls' := [some (.ref 4), some (.int (nI i)), some (.int (nI j)), some (.int (nI 0)), none]) (st' := [.int (nI j), .int (nI i), .ref 4]) (M' := M) rfl ⟨trivial, trivial, trivial, trivial, trivial, trivial⟩ ?_
      refine g_callV (s_look M hm hi hj) ok_X1_fill_X1_look (by decide +kernel) rfl (c := 1) rfl (by decide) rfl (Nat.le_of_ble_eq_true rfl) (fun r L h => ?_) rfl
      obtain ⟨hr, l7, l8, l9, l5, l6, lz⟩ := h
      rw [hr]
      show G _ 34 [some (.ref 4), some (.int (nI i)), some (.int (nI j)), some (.int (nI 0)), none] [] L _
      refine blk 1 [(.iconst 0, 0, 0, (nI 0)), (.istore 4, 0, 0, 0)] [] (by decide +kernel) rfl (pc' := 37) (ls' := [some (.ref 4), some (.int (nI i)), some (.int (nI j)), some (.int (nI 0)), some (.int (nI 0))]) (st' := []) (M' := L) rfl ⟨trivial, trivial, trivial⟩ ?_
      exact l_fill0 hm hi hj (by omega) l7 l8 l9 l5 l6 lz _ 0 L rfl (by omega) (fun a h => absurd h (by omega)) (fun a k _ _ => rfl) (fun z _ => rfl)
    · have nc2 : j = q := (nI_eq (by omega) (by omega)).mp (by simpa only [m1, m2, nI_add, pk_mul, nI_s1, n0_lit] using c2)
      refine blk 1 [(.iconst 1, 0, 0, (nI 1)), (.goto (4), 27, 0, 0), (.istore_n 3, 0, 0, 0), (.aload_n 0, 0, 0, 0), (.iload_n 1, 0, 0, 0), (.iload_n 2, 0, 0, 0)] [] (by decide +kernel) rfl (pc' := 31) (ls' := [some (.ref 4), some (.int (nI i)), some (.int (nI j)), some (.int (nI 1)), none]) (st' := [.int (nI j), .int (nI i), .ref 4]) (M' := M) rfl ⟨trivial, trivial, trivial, trivial, trivial, trivial, trivial⟩ ?_
      refine g_callV (s_look M hm hi hj) ok_X1_fill_X1_look (by decide +kernel) rfl (c := 1) rfl (by decide) rfl (Nat.le_of_ble_eq_true rfl) (fun r L h => ?_) rfl
      obtain ⟨hr, l7, l8, l9, l5, l6, lz⟩ := h
      rw [hr]
      show G _ 34 [some (.ref 4), some (.int (nI i)), some (.int (nI j)), some (.int (nI 1)), none] [] L _
      refine blk 1 [(.iconst 0, 0, 0, (nI 0)), (.istore 4, 0, 0, 0)] [] (by decide +kernel) rfl (pc' := 37) (ls' := [some (.ref 4), some (.int (nI i)), some (.int (nI j)), some (.int (nI 1)), some (.int (nI 0))]) (st' := []) (M' := L) rfl ⟨trivial, trivial, trivial⟩ ?_
      exact l_fill1 hm hi hj (by omega) l7 l8 l9 l5 l6 lz _ 0 L rfl (by omega) (fun a h => absurd h (by omega)) (fun a k _ _ => rfl) (fun z _ => rfl)
