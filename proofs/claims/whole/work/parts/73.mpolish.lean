/-! polish: one word; the reference -/
theorem l_po1 (M : Mem) {n : Nat} (hn : M 0 7 = nI n) (h1 : n = 1) : G mX6_polish 18 [some (.ref 0), some (.int (nI 0)), some (.int (nI 1)), some (.int (nI 0)), some (.int (nI 1))] [] M (Ret 0 M) := by
  refine blk 6 [(.iload 4, 0, 0, 0), (.ldc 202, 0, 0, 1000000)] [] (by decide +kernel) rfl (pc' := 22) (ls' := [some (.ref 0), some (.int (nI 0)), some (.int (nI 1)), some (.int (nI 0)), some (.int (nI 1))]) (st' := [.int 1000000, .int (nI 1)]) (M' := M) rfl ⟨trivial, trivial, trivial⟩ ?_
  refine g_icmp_ge (off := 54) (tgt := 76) (by decide +kernel) (by decide) (fun c1 => ?_) (fun c1 => ?_)
  · exact absurd c1 (by decide +kernel)
  · refine blk 6 [(.iload_n 2, 0, 0, 0), (.aload_n 0, 0, 0, 0), (.getfield 67, 6, 7, 0)] [] (by decide +kernel) rfl (pc' := 30) (ls' := [some (.ref 0), some (.int (nI 0)), some (.int (nI 1)), some (.int (nI 0)), some (.int (nI 1))]) (st' := [.int (M 0 7), .int (nI 1)]) (M' := M) rfl ⟨trivial, trivial, rfl, trivial⟩ ?_
    refine g_icmp_ge (off := 46) (tgt := 76) (by decide +kernel) (by decide) (fun c2 => ?_) (fun c2 => ?_)
    · have nc2 : n ≤ 1 := (nI_leI (by omega) (by omega)).mp (by simpa only [hn, nI_add, pk_mul, nI_s1, n0_lit] using c2)
      refine blk 6 [(.iload_n 1, 0, 0, 0)] [] (by decide +kernel) rfl (pc' := 77) (ls' := [some (.ref 0), some (.int (nI 0)), some (.int (nI 1)), some (.int (nI 0)), some (.int (nI 1))]) (st' := [.int (nI 0)]) (M' := M) rfl ⟨trivial, trivial⟩ ?_
      first
        | exact g_ireturn (by decide +kernel) rfl rfl ⟨congrArg (fun z => some (Value.int z)) (by decide +kernel), rfl⟩
        | (exfalso; omega)
    · have nc2 : 1 < n := by
        have z : ¬ nI n ≤ nI 1 := by simpa only [hn, nI_add, pk_mul, nI_s1, n0_lit] using c2
        rw [nI_leI (by omega) (by omega)] at z
        omega
      exfalso
      omega
theorem l_po2 (M : Mem) {n : Nat} (hn : M 0 7 = nI n) (h1 : n = 1) : G mX6_polish 18 [some (.ref 0), some (.int (nI 0)), some (.int (nI 0)), some (.int (nI 0)), some (.int (nI 0))] [] M (Ret 0 M) := by
  refine blk 6 [(.iload 4, 0, 0, 0), (.ldc 202, 0, 0, 1000000)] [] (by decide +kernel) rfl (pc' := 22) (ls' := [some (.ref 0), some (.int (nI 0)), some (.int (nI 0)), some (.int (nI 0)), some (.int (nI 0))]) (st' := [.int 1000000, .int (nI 0)]) (M' := M) rfl ⟨trivial, trivial, trivial⟩ ?_
  refine g_icmp_ge (off := 54) (tgt := 76) (by decide +kernel) (by decide) (fun c1 => ?_) (fun c1 => ?_)
  · exact absurd c1 (by decide +kernel)
  · refine blk 6 [(.iload_n 2, 0, 0, 0), (.aload_n 0, 0, 0, 0), (.getfield 67, 6, 7, 0)] [] (by decide +kernel) rfl (pc' := 30) (ls' := [some (.ref 0), some (.int (nI 0)), some (.int (nI 0)), some (.int (nI 0)), some (.int (nI 0))]) (st' := [.int (M 0 7), .int (nI 0)]) (M' := M) rfl ⟨trivial, trivial, rfl, trivial⟩ ?_
    refine g_icmp_ge (off := 46) (tgt := 76) (by decide +kernel) (by decide) (fun c2 => ?_) (fun c2 => ?_)
    · have nc2 : n ≤ 0 := (nI_leI (by omega) (by omega)).mp (by simpa only [hn, Int32.zero_add, nI_add, pk_mul, nI_s1, n0_lit] using c2)
      exfalso
      omega
    · have nc2 : 0 < n := by
        have z : ¬ nI n ≤ nI 0 := by simpa only [hn, Int32.zero_add, nI_add, pk_mul, nI_s1, n0_lit] using c2
        rw [nI_leI (by omega) (by omega)] at z
        omega
      refine blk 6 [(.aload_n 0, 0, 0, 0), (.iload_n 3, 0, 0, 0)] [] (by decide +kernel) rfl (pc' := 35) (ls' := [some (.ref 0), some (.int (nI 0)), some (.int (nI 0)), some (.int (nI 0)), some (.int (nI 0))]) (st' := [.int (nI 0), .ref 0]) (M' := M) rfl ⟨trivial, trivial, trivial⟩ ?_
      refine g_callV (s_refine0 M (i := nI 0) (Or.inr (Or.inr (by rw [hn, h1]; decide +kernel)))) ok_X6_polish_X6_refine (by decide +kernel) rfl (c := 6) rfl (by decide) rfl (Nat.le_of_ble_eq_true rfl) (fun r M' h => ?_) rfl
      obtain ⟨hr, hM⟩ := h
      rw [hr, hM]
      show G _ 38 [some (.ref 0), some (.int (nI 0)), some (.int (nI 0)), some (.int (nI 0)), some (.int (nI 0))] [.int 0] M _
      refine g_if_eq (off := 11) (tgt := 49) (by decide +kernel) (by decide) (fun c3 => ?_) (fun c3 => ?_)
      · refine blk 6 [(.iinc 2 1, 0, 0, (nI 1)), (.iload_n 3, 0, 0, 0), (.iconst 1, 0, 0, (nI 1)), (.iadd, 0, 0, 0), (.aload_n 0, 0, 0, 0), (.getfield 67, 6, 7, 0)] [] (by decide +kernel) rfl (pc' := 59) (ls' := [some (.ref 0), some (.int (nI 0)), some (.int (nI 0 + nI 1)), some (.int (nI 0)), some (.int (nI 0))]) (st' := [.int (M 0 7), .int ((nI 0) + (nI 1))]) (M' := M) rfl ⟨trivial, trivial, trivial, trivial, trivial, rfl, trivial⟩ ?_
        refine g_icmp_ge (off := 9) (tgt := 68) (by decide +kernel) (by decide) (fun c4 => ?_) (fun c4 => ?_)
        · have nc4 : n ≤ 1 := (nI_leI (by omega) (by omega)).mp (by simpa only [hn, Int32.zero_add, nI_add, pk_mul, nI_s1, n0_lit] using c4)
          refine blk 6 [(.iconst 0, 0, 0, (nI 0)), (.istore_n 3, 0, 0, 0), (.iinc 4 1, 0, 0, (nI 1)), (.goto (-55), 18, 0, 0)] [] (by decide +kernel) rfl (pc' := 18) (ls' := [some (.ref 0), some (.int (nI 0)), some (.int (nI 0 + nI 1)), some (.int (nI 0)), some (.int (nI 0 + nI 1))]) (st' := []) (M' := M) rfl ⟨trivial, trivial, trivial, trivial, trivial⟩ ?_
          first
            | (exfalso; omega)
            | (refine G.sub (ls' := [some (.ref 0), some (.int (nI 0)), some (.int (nI 1)), some (.int (nI 0)), some (.int (nI 1))]) ?_ ⟨rfl, rfl, congrArg (fun z => some (Value.int z)) (by simp only [nI_add, nI_s1]), rfl, congrArg (fun z => some (Value.int z)) (by simp only [nI_add, nI_s1]), trivial⟩
               exact l_po1 M hn h1)
        · have nc4 : 1 < n := by
            have z : ¬ nI n ≤ nI 1 := by simpa only [hn, Int32.zero_add, nI_add, pk_mul, nI_s1, n0_lit] using c4
            rw [nI_leI (by omega) (by omega)] at z
            omega
          refine blk 6 [(.iload_n 3, 0, 0, 0), (.iconst 1, 0, 0, (nI 1)), (.iadd, 0, 0, 0), (.goto (4), 69, 0, 0), (.istore_n 3, 0, 0, 0), (.iinc 4 1, 0, 0, (nI 1)), (.goto (-55), 18, 0, 0)] [] (by decide +kernel) rfl (pc' := 18) (ls' := [some (.ref 0), some (.int (nI 0)), some (.int (nI 0 + nI 1)), some (.int ((nI 0) + (nI 1))), some (.int (nI 0 + nI 1))]) (st' := []) (M' := M) rfl ⟨trivial, trivial, trivial, trivial, trivial, trivial, trivial, trivial⟩ ?_
          first
            | (exfalso; omega)
            | (refine G.sub (ls' := [some (.ref 0), some (.int (nI 0)), some (.int (nI 1)), some (.int (nI 0)), some (.int (nI 1))]) ?_ ⟨rfl, rfl, congrArg (fun z => some (Value.int z)) (by simp only [nI_add, nI_s1]), congrArg (fun z => some (Value.int z)) (by simp only [nI_add, nI_s1]), congrArg (fun z => some (Value.int z)) (by simp only [nI_add, nI_s1]), trivial⟩
               exact l_po1 M hn h1)
      · exact absurd (by decide +kernel) c3
theorem s_polish_one (M : Mem) {n : Nat} (hn : M 0 7 = nI n) (h1 : n = 1) (hl : ¬ M 0 11 = 0) : Spec mX6_polish [.ref 0] M (Ret 0 M) := by
  refine Spec.of (by decide) (by simp [Value.category]) (Nat.le_of_ble_eq_true rfl) ?_
  refine blk 6 [(.aload_n 0, 0, 0, 0), (.getfield 74, 6, 11, 0)] [] (by decide +kernel) rfl (pc' := 4) (ls' := [some (.ref 0), none, none, none, none]) (st' := [.int (M 0 11)]) (M' := M) rfl ⟨trivial, rfl, trivial⟩ ?_
  refine g_if_ne (off := 5) (tgt := 9) (by decide +kernel) (by decide) (fun c1 => ?_) (fun c1 => ?_)
  · refine blk 6 [(.iconst 0, 0, 0, (nI 0)), (.istore_n 1, 0, 0, 0), (.iconst 0, 0, 0, (nI 0)), (.istore_n 2, 0, 0, 0), (.iconst 0, 0, 0, (nI 0)), (.istore_n 3, 0, 0, 0), (.iconst 0, 0, 0, (nI 0)), (.istore 4, 0, 0, 0)] [] (by decide +kernel) rfl (pc' := 18) (ls' := [some (.ref 0), some (.int (nI 0)), some (.int (nI 0)), some (.int (nI 0)), some (.int (nI 0))]) (st' := []) (M' := M) rfl ⟨trivial, trivial, trivial, trivial, trivial, trivial, trivial, trivial, trivial⟩ ?_
    refine G.sub (ls' := [some (.ref 0), some (.int (nI 0)), some (.int (nI 0)), some (.int (nI 0)), some (.int (nI 0))]) ?_ ⟨rfl, rfl, rfl, rfl, rfl, trivial⟩
    exact l_po2 M hn h1
  · refine blk 6 [(.iconst (-1), 0, 0, (-1))] [] (by decide +kernel) rfl (pc' := 8) (ls' := [some (.ref 0), none, none, none, none]) (st' := [.int (-1)]) (M' := M) rfl ⟨trivial, trivial⟩ ?_
    exact absurd (by assumption) hl
theorem l_mpo1 (M : Mem) {n : Nat} (hn : M 72 0 = nI n) (h1 : n = 1) : G mX7_polish 15 [some (.ref 72), some (.int (nI 0)), some (.int (nI 0)), some (.int (nI 1)), none] [] M (Ret 0 M) := by
  refine blk 7 [(.iload_n 3, 0, 0, 0), (.aload_n 0, 0, 0, 0), (.getfield 103, 7, 0, 0)] [] (by decide +kernel) rfl (pc' := 20) (ls' := [some (.ref 72), some (.int (nI 0)), some (.int (nI 0)), some (.int (nI 1)), none]) (st' := [.int (M 72 0), .int (nI 1)]) (M' := M) rfl ⟨trivial, trivial, rfl, trivial⟩ ?_
  refine g_icmp_ge (off := 48) (tgt := 68) (by decide +kernel) (by decide) (fun c1 => ?_) (fun c1 => ?_)
  · have nc1 : n ≤ 1 := (nI_leI (by omega) (by omega)).mp (by simpa only [hn, nI_add, pk_mul, nI_s1, n0_lit] using c1)
    refine blk 7 [(.iload_n 1, 0, 0, 0)] [] (by decide +kernel) rfl (pc' := 69) (ls' := [some (.ref 72), some (.int (nI 0)), some (.int (nI 0)), some (.int (nI 1)), none]) (st' := [.int (nI 0)]) (M' := M) rfl ⟨trivial, trivial⟩ ?_
    first
      | exact g_ireturn (by decide +kernel) rfl rfl ⟨congrArg (fun z => some (Value.int z)) (by decide +kernel), rfl⟩
      | (exfalso; omega)
  · have nc1 : 1 < n := by
      have z : ¬ nI n ≤ nI 1 := by simpa only [hn, nI_add, pk_mul, nI_s1, n0_lit] using c1
      rw [nI_leI (by omega) (by omega)] at z
      omega
    exfalso
    omega
theorem l_mpo2 (M : Mem) {n : Nat} (hn : M 72 0 = nI n) (h1 : n = 1) : G mX7_polish 15 [some (.ref 72), some (.int (nI 0)), some (.int (nI 0)), some (.int (nI 0)), none] [] M (Ret 0 M) := by
  have hnz : ¬ M 72 0 = 0 := by rw [hn, h1]; decide +kernel
  refine blk 7 [(.iload_n 3, 0, 0, 0), (.aload_n 0, 0, 0, 0), (.getfield 103, 7, 0, 0)] [] (by decide +kernel) rfl (pc' := 20) (ls' := [some (.ref 72), some (.int (nI 0)), some (.int (nI 0)), some (.int (nI 0)), none]) (st' := [.int (M 72 0), .int (nI 0)]) (M' := M) rfl ⟨trivial, trivial, rfl, trivial⟩ ?_
  refine g_icmp_ge (off := 48) (tgt := 68) (by decide +kernel) (by decide) (fun c1 => ?_) (fun c1 => ?_)
  · have nc1 : n ≤ 0 := (nI_leI (by omega) (by omega)).mp (by simpa only [hn, nI_add, pk_mul, nI_s1, n0_lit] using c1)
    exfalso
    omega
  · have nc1 : 0 < n := by
      have z : ¬ nI n ≤ nI 0 := by simpa only [hn, nI_add, pk_mul, nI_s1, n0_lit] using c1
      rw [nI_leI (by omega) (by omega)] at z
      omega
    refine blk 7 [(.aload_n 0, 0, 0, 0), (.iload_n 2, 0, 0, 0)] [] (by decide +kernel) rfl (pc' := 25) (ls' := [some (.ref 72), some (.int (nI 0)), some (.int (nI 0)), some (.int (nI 0)), none]) (st' := [.int (nI 0), .ref 72]) (M' := M) rfl ⟨trivial, trivial, trivial⟩ ?_
    refine g_callV (s_mrefine0 M (i := nI 0) (fun z => z.2.2.2 (by rw [hn, h1]))) ok_X7_polish_X7_refine (by decide +kernel) rfl (c := 7) rfl (by decide) rfl (Nat.le_of_ble_eq_true rfl) (fun r M' h => ?_) rfl
    obtain ⟨hr, hM⟩ := h
    rw [hr, hM]
    show G _ 28 [some (.ref 72), some (.int (nI 0)), some (.int (nI 0)), some (.int (nI 0)), none] [.int 0] M _
    refine blk 7 [(.istore 4, 0, 0, 0), (.iload_n 1, 0, 0, 0), (.iload 4, 0, 0, 0)] [] (by decide +kernel) rfl (pc' := 33) (ls' := [some (.ref 72), some (.int (nI 0)), some (.int (nI 0)), some (.int (nI 0)), some (.int 0)]) (st' := [.int 0, .int (nI 0)]) (M' := M) rfl ⟨trivial, trivial, trivial, trivial⟩ ?_
    refine g_if_eq (off := 7) (tgt := 40) (by decide +kernel) (by decide) (fun c2 => ?_) (fun c2 => ?_)
    · refine blk 7 [(.iconst 0, 0, 0, (nI 0)), (.iadd, 0, 0, 0), (.istore_n 1, 0, 0, 0), (.iload 4, 0, 0, 0)] [] (by decide +kernel) rfl (pc' := 45) (ls' := [some (.ref 72), some (.int ((nI 0) + (nI 0))), some (.int (nI 0)), some (.int (nI 0)), some (.int 0)]) (st' := [.int 0]) (M' := M) rfl ⟨trivial, trivial, trivial, trivial, trivial⟩ ?_
      refine g_if_eq (off := 7) (tgt := 52) (by decide +kernel) (by decide) (fun c3 => ?_) (fun c3 => ?_)
      · refine blk 7 [(.iload_n 3, 0, 0, 0), (.iconst 1, 0, 0, (nI 1)), (.iadd, 0, 0, 0), (.istore_n 3, 0, 0, 0), (.iload_n 2, 0, 0, 0), (.iconst 1, 0, 0, (nI 1)), (.iadd, 0, 0, 0), (.aload_n 0, 0, 0, 0), (.getfield 103, 7, 0, 0), (.irem, 0, 0, 0), (.istore_n 2, 0, 0, 0), (.goto (-50), 15, 0, 0)] [] (by decide +kernel) rfl (pc' := 15) (ls' := [some (.ref 72), some (.int ((nI 0) + (nI 0))), some (.int (((nI 0) + (nI 1)) - ((nI 0) + (nI 1)) / (M 72 0) * (M 72 0))), some (.int ((nI 0) + (nI 1))), some (.int 0)]) (st' := []) (M' := M) rfl ⟨trivial, trivial, trivial, trivial, trivial, trivial, trivial, trivial, rfl, hnz, trivial, trivial, trivial⟩ ?_
        refine G.sub (ls' := [some (.ref 72), some (.int (nI 0)), some (.int (nI 0)), some (.int (nI 1)), none]) ?_ ⟨rfl, congrArg (fun z => some (Value.int z)) (by decide +kernel), congrArg (fun z => some (Value.int z)) (by rw [hn, h1]; decide +kernel), congrArg (fun z => some (Value.int z)) (by decide +kernel), trivial⟩
        exact l_mpo1 M hn h1
      · exact absurd (by decide +kernel) c3
    · exact absurd (by decide +kernel) c2
theorem s_mpolish_one (M : Mem) {n : Nat} (hn : M 72 0 = nI n) (h1 : n = 1) (hl : ¬ M 72 11 = 0) : Spec mX7_polish [.ref 72] M (Ret 0 M) := by
  refine Spec.of (by decide) (by simp [Value.category]) (Nat.le_of_ble_eq_true rfl) ?_
  refine blk 7 [(.aload_n 0, 0, 0, 0), (.getfield 89, 7, 11, 0)] [] (by decide +kernel) rfl (pc' := 4) (ls' := [some (.ref 72), none, none, none, none]) (st' := [.int (M 72 11)]) (M' := M) rfl ⟨trivial, rfl, trivial⟩ ?_
  refine g_if_ne (off := 5) (tgt := 9) (by decide +kernel) (by decide) (fun c1 => ?_) (fun c1 => ?_)
  · refine blk 7 [(.iconst 0, 0, 0, (nI 0)), (.istore_n 1, 0, 0, 0), (.iconst 0, 0, 0, (nI 0)), (.istore_n 2, 0, 0, 0), (.iconst 0, 0, 0, (nI 0)), (.istore_n 3, 0, 0, 0)] [] (by decide +kernel) rfl (pc' := 15) (ls' := [some (.ref 72), some (.int (nI 0)), some (.int (nI 0)), some (.int (nI 0)), none]) (st' := []) (M' := M) rfl ⟨trivial, trivial, trivial, trivial, trivial, trivial, trivial⟩ ?_
    refine G.sub (ls' := [some (.ref 72), some (.int (nI 0)), some (.int (nI 0)), some (.int (nI 0)), none]) ?_ ⟨rfl, rfl, rfl, rfl, trivial⟩
    exact l_mpo2 M hn h1
  · refine blk 7 [(.iconst (-1), 0, 0, (-1))] [] (by decide +kernel) rfl (pc' := 8) (ls' := [some (.ref 72), none, none, none, none]) (st' := [.int (-1)]) (M' := M) rfl ⟨trivial, trivial⟩ ?_
    exact absurd (by assumption) hl
theorem s_mpolish0 (M : Mem) (hl : M 72 11 = 0) : Spec mX7_polish [.ref 72] M (Ret (-1) M) := by
  refine Spec.of (by decide) (by simp [Value.category]) (Nat.le_of_ble_eq_true rfl) ?_
  refine blk 7 [(.aload_n 0, 0, 0, 0), (.getfield 89, 7, 11, 0)] [] (by decide +kernel) rfl (pc' := 4) (ls' := [some (.ref 72), none, none, none, none]) (st' := [.int (M 72 11)]) (M' := M) rfl ⟨trivial, rfl, trivial⟩ ?_
  refine g_if_ne (off := 5) (tgt := 9) (by decide +kernel) (by decide) (fun c1 => ?_) (fun c1 => ?_)
  · exact absurd hl (by assumption)
  · refine blk 7 [(.iconst (-1), 0, 0, (-1))] [] (by decide +kernel) rfl (pc' := 8) (ls' := [some (.ref 72), none, none, none, none]) (st' := [.int (-1)]) (M' := M) rfl ⟨trivial, trivial⟩ ?_
    exact g_ireturn (by decide +kernel) rfl rfl ⟨rfl, rfl⟩
theorem sameW_turn {C N R R' : Mem} {B B2 n W i : Nat} {ln : Nat → Nat} {b : Bool} (hn : n ≤ 5) (hP : rfP C B B2 n W ln i b N) (hk : rfKeep R R') (h : sameW C R n ln) : sameW N R' n ln := by
  obtain ⟨T, F, r0, m, ht, pb, pr, po, pf, pz, psh⟩ := hP
  obtain ⟨w1, w2, w3, w4, w5, w6, w7, w8⟩ := h
  unfold sameW
  rw [pz 3 (by omega), pz 2 (by omega), pz 97 (by omega), pf 8 (by decide) (by decide), hk.1 6 (by omega), hk.1 7 (by omega), hk.1 8 (by omega), hk.2 77 (by decide) (by decide) (by omega), hk.2 74 (by decide) (by decide) (by omega)]
  refine ⟨fun j hj => ?_, w2, w3, w4, w5, w6, w7, w8⟩
  unfold wordOK mwordOK
  rw [pz (41 + j) (by omega), pz (41 + j + 5) (by omega), hk.2 73 (by decide) (by decide) (by omega), hk.2 74 (by decide) (by decide) (by omega)]
  exact w1 j hj
theorem rfKeep_tr {M R N : Mem} (h1 : rfKeep M R) (h2 : rfKeep R N) : rfKeep M N := ⟨fun f hf => by rw [h2.1 f hf]; exact h1.1 f hf, fun z a b c => by rw [h2.2 z a b c]; exact h1.2 z a b c⟩
theorem mod_next {n row : Nat} (hn : n ≤ 5) (hr : row < n) : (nI row + nI 1) - (nI row + nI 1) / nI n * nI n = nI (if row + 1 < n then row + 1 else 0) := (by decide +kernel : ∀ n, n < 6 → ∀ row, row < n → (nI row + nI 1) - (nI row + nI 1) / nI n * nI n = nI (if row + 1 < n then row + 1 else 0)) n (by omega) row hr
theorem l_mpol {M C' : Mem} {n res B' W' : Nat} {ln : Nat → Nat} {Post : Option Value → Mem → Prop} (hn : M 72 0 = nI n) (hn2 : 2 ≤ n) (hn5 : n ≤ 5) (hlM : ¬ M 72 11 = 0) (hp : ∀ R, layR C' R B' n W' → rfKeep M R → R 72 11 = M 72 11 → Post (some (.int (nI res))) R) : ∀ (l : List (Bool × Mem × Nat)) row f k C B W R, Turns n ln res C' B' W' l row f k C B W → row < n → rowsOK C B n W ln → (∀ i, i < 5 → ps 11 (C 24 i)) → sameW C R n ln → layR C R B n W → rfKeep M R → R 72 11 = M 72 11 → G mX7_polish 15 [some (.ref 72), some (.int (nI k)), some (.int (nI row)), some (.int (nI f)), none] [] R Post := by
  intro l
  induction l with
  | nil =>
    intro row f k C B W R hT hrow hro hps hW hLR hkp hl
    obtain ⟨e1, e2, e3, e4, e5⟩ := hT
    rw [e3, e4, e5] at hLR
    subst e2
    have hnR : R 72 0 = nI n := by rw [hkp.1 0 (by omega)]; exact hn
    refine blk 7 [(.iload_n 3, 0, 0, 0), (.aload_n 0, 0, 0, 0), (.getfield 103, 7, 0, 0)] [] (by decide +kernel) rfl (pc' := 20) (ls' := [some (.ref 72), some (.int (nI k)), some (.int (nI row)), some (.int (nI f)), none]) (st' := [.int (R 72 0), .int (nI f)]) (M' := R) rfl ⟨trivial, trivial, rfl, trivial⟩ ?_
    refine g_icmp_ge (off := 48) (tgt := 68) (by decide +kernel) (by decide) (fun c1 => ?_) (fun c1 => ?_)
    · have nc1 : n ≤ f := (nI_leI (by omega) (by omega)).mp (by simpa only [hnR, nI_add, pk_mul, nI_s1, n0_lit] using c1)
      refine blk 7 [(.iload_n 1, 0, 0, 0)] [] (by decide +kernel) rfl (pc' := 69) (ls' := [some (.ref 72), some (.int (nI k)), some (.int (nI row)), some (.int (nI f)), none]) (st' := [.int (nI k)]) (M' := R) rfl ⟨trivial, trivial⟩ ?_
      exact g_ireturn (by decide +kernel) rfl rfl (hp R hLR hkp hl)
    · have nc1 : f < n := by
        have z : ¬ nI n ≤ nI f := by simpa only [hnR, nI_add, pk_mul, nI_s1, n0_lit] using c1
        rw [nI_leI (by omega) (by omega)] at z
        omega
      exfalso
      omega
  | cons x l ih =>
    intro row f k C B W R hT hrow hro hps hW hLR hkp hl
    obtain ⟨b, N, V⟩ := x
    obtain ⟨hf, hP, hrV, hT⟩ := hT
    have hnR : R 72 0 = nI n := by rw [hkp.1 0 (by omega)]; exact hn
    refine blk 7 [(.iload_n 3, 0, 0, 0), (.aload_n 0, 0, 0, 0), (.getfield 103, 7, 0, 0)] [] (by decide +kernel) rfl (pc' := 20) (ls' := [some (.ref 72), some (.int (nI k)), some (.int (nI row)), some (.int (nI f)), none]) (st' := [.int (R 72 0), .int (nI f)]) (M' := R) rfl ⟨trivial, trivial, rfl, trivial⟩ ?_
    refine g_icmp_ge (off := 48) (tgt := 68) (by decide +kernel) (by decide) (fun c1 => ?_) (fun c1 => ?_)
    · have nc1 : n ≤ f := (nI_leI (by omega) (by omega)).mp (by simpa only [hnR, nI_add, pk_mul, nI_s1, n0_lit] using c1)
      exfalso
      omega
    · have nc1 : f < n := by
        have z : ¬ nI n ≤ nI f := by simpa only [hnR, nI_add, pk_mul, nI_s1, n0_lit] using c1
        rw [nI_leI (by omega) (by omega)] at z
        omega
      refine blk 7 [(.aload_n 0, 0, 0, 0), (.iload_n 2, 0, 0, 0)] [] (by decide +kernel) rfl (pc' := 25) (ls' := [some (.ref 72), some (.int (nI k)), some (.int (nI row)), some (.int (nI f)), none]) (st' := [.int (nI row), .ref 72]) (M' := R) rfl ⟨trivial, trivial, trivial⟩ ?_
      refine g_callV (s_mrefine1 R (C := C) (C' := N) (B := B) (B2 := 112 - B) (W := W) (i := row) (ln := ln) (b := b) hnR hn2 hn5 hrow hW hro hps hLR hP (by rw [hl]; exact hlM)) ok_X7_polish_X7_refine (by decide +kernel) rfl (c := 7) rfl (by decide) rfl (Nat.le_of_ble_eq_true rfl) (fun r A hA => ?_) rfl
      obtain ⟨hr, q1, q2, q3⟩ := hA
      rw [hr]
      have hnA : A 72 0 = nI n := by rw [q3.1 0 (by omega)]; exact hnR
      have hnz : ¬ A 72 0 = 0 := fun z => by rw [hnA] at z; exact absurd ((nI_eq (by omega) (by omega)).mp (z.trans nI_0.symm)) (by omega)
      have hps2 : ∀ i, i < 5 → ps 11 (N 24 i) := by obtain ⟨_, _, _, _, _, _, _, _, _, pz, _⟩ := hP; rw [pz 24 (by omega)]; exact hps
      have hrow2 : (if row + 1 < n then row + 1 else 0) < n := by split <;> omega
      show G _ 28 [some (.ref 72), some (.int (nI k)), some (.int (nI row)), some (.int (nI f)), none] [.int (bI b)] A _
      refine blk 7 [(.istore 4, 0, 0, 0), (.iload_n 1, 0, 0, 0), (.iload 4, 0, 0, 0)] [] (by decide +kernel) rfl (pc' := 33) (ls' := [some (.ref 72), some (.int (nI k)), some (.int (nI row)), some (.int (nI f)), some (.int (bI b))]) (st' := [.int (bI b), .int (nI k)]) (M' := A) rfl ⟨trivial, trivial, trivial, trivial⟩ ?_
      refine g_if_eq (off := 7) (tgt := 40) (by decide +kernel) (by decide) (fun c2 => ?_) (fun c2 => ?_)
      · refine blk 7 [(.iconst 0, 0, 0, (nI 0)), (.iadd, 0, 0, 0), (.istore_n 1, 0, 0, 0), (.iload 4, 0, 0, 0)] [] (by decide +kernel) rfl (pc' := 45) (ls' := [some (.ref 72), some (.int ((nI k) + (nI 0))), some (.int (nI row)), some (.int (nI f)), some (.int (bI b))]) (st' := [.int (bI b)]) (M' := A) rfl ⟨trivial, trivial, trivial, trivial, trivial⟩ ?_
        refine g_if_eq (off := 7) (tgt := 52) (by decide +kernel) (by decide) (fun c3 => ?_) (fun c3 => ?_)
        · refine blk 7 [(.iload_n 3, 0, 0, 0), (.iconst 1, 0, 0, (nI 1)), (.iadd, 0, 0, 0), (.istore_n 3, 0, 0, 0), (.iload_n 2, 0, 0, 0), (.iconst 1, 0, 0, (nI 1)), (.iadd, 0, 0, 0), (.aload_n 0, 0, 0, 0), (.getfield 103, 7, 0, 0), (.irem, 0, 0, 0), (.istore_n 2, 0, 0, 0), (.goto (-50), 15, 0, 0)] [] (by decide +kernel) rfl (pc' := 15) (ls' := [some (.ref 72), some (.int ((nI k) + (nI 0))), some (.int (((nI row) + (nI 1)) - ((nI row) + (nI 1)) / (A 72 0) * (A 72 0))), some (.int ((nI f) + (nI 1))), some (.int (bI b))]) (st' := []) (M' := A) rfl ⟨trivial, trivial, trivial, trivial, trivial, trivial, trivial, trivial, rfl, hnz, trivial, trivial, trivial⟩ ?_
          have hbt : b = false := bI_eq (by assumption)
          subst hbt
          refine G.sub (ls' := [some (.ref 72), some (.int (nI k)), some (.int (nI (if row + 1 < n then row + 1 else 0))), some (.int (nI (f + 1))), none]) ?_ ⟨rfl, congrArg (fun z => some (Value.int z)) (by simp only [nI_add, Nat.add_zero]), congrArg (fun z => some (Value.int z)) (by rw [hnA]; exact mod_next hn5 hrow), congrArg (fun z => some (Value.int z)) (by simp only [nI_add, Nat.add_zero]), trivial⟩
          exact ih _ _ _ N _ V A hT hrow2 hrV hps2 (sameW_turn hn5 hP q3 hW) (q1 V hrV) (rfKeep_tr hkp q3) (by rw [q2]; exact hl)
        · exact absurd c2 c3
      · refine blk 7 [(.iconst 1, 0, 0, (nI 1)), (.goto (4), 41, 0, 0), (.iadd, 0, 0, 0), (.istore_n 1, 0, 0, 0), (.iload 4, 0, 0, 0)] [] (by decide +kernel) rfl (pc' := 45) (ls' := [some (.ref 72), some (.int ((nI k) + (nI 1))), some (.int (nI row)), some (.int (nI f)), some (.int (bI b))]) (st' := [.int (bI b)]) (M' := A) rfl ⟨trivial, trivial, trivial, trivial, trivial, trivial⟩ ?_
        refine g_if_eq (off := 7) (tgt := 52) (by decide +kernel) (by decide) (fun c4 => ?_) (fun c4 => ?_)
        · exact absurd c4 c2
        · refine blk 7 [(.iconst 0, 0, 0, (nI 0)), (.goto (6), 55, 0, 0), (.istore_n 3, 0, 0, 0), (.iload_n 2, 0, 0, 0), (.iconst 1, 0, 0, (nI 1)), (.iadd, 0, 0, 0), (.aload_n 0, 0, 0, 0), (.getfield 103, 7, 0, 0), (.irem, 0, 0, 0), (.istore_n 2, 0, 0, 0), (.goto (-50), 15, 0, 0)] [] (by decide +kernel) rfl (pc' := 15) (ls' := [some (.ref 72), some (.int ((nI k) + (nI 1))), some (.int (((nI row) + (nI 1)) - ((nI row) + (nI 1)) / (A 72 0) * (A 72 0))), some (.int (nI 0)), some (.int (bI b))]) (st' := []) (M' := A) rfl ⟨trivial, trivial, trivial, trivial, trivial, trivial, trivial, rfl, hnz, trivial, trivial, trivial⟩ ?_
          have hbt : b = true := bI_ne (by assumption)
          subst hbt
          refine G.sub (ls' := [some (.ref 72), some (.int (nI (k + 1))), some (.int (nI (if row + 1 < n then row + 1 else 0))), some (.int (nI 0)), none]) ?_ ⟨rfl, congrArg (fun z => some (Value.int z)) (by simp only [nI_add, Nat.add_zero]), congrArg (fun z => some (Value.int z)) (by rw [hnA]; exact mod_next hn5 hrow), rfl, trivial⟩
          exact ih _ _ _ N _ V A hT hrow2 hrV hps2 (sameW_turn hn5 hP q3 hW) (q1 V hrV) (rfKeep_tr hkp q3) (by rw [q2]; exact hl)
theorem s_mpolish1 (M : Mem) {C C' : Mem} {n res B B' W W' : Nat} {ln : Nat → Nat} {l : List (Bool × Mem × Nat)} (hn : M 72 0 = nI n) (hn2 : 2 ≤ n) (hn5 : n ≤ 5) (hlM : ¬ M 72 11 = 0) (hT : Turns n ln res C' B' W' l 0 0 0 C B W) (hro : rowsOK C B n W ln) (hps : ∀ i, i < 5 → ps 11 (C 24 i)) (hW : sameW C M n ln) (hLR : layR C M B n W) : Spec mX7_polish [.ref 72] M (fun r N => r = some (.int (nI res)) ∧ layR C' N B' n W' ∧ rfKeep M N ∧ N 72 11 = M 72 11) := by
  refine Spec.of (by decide) (by simp [Value.category]) (Nat.le_of_ble_eq_true rfl) ?_
  refine blk 7 [(.aload_n 0, 0, 0, 0), (.getfield 89, 7, 11, 0)] [] (by decide +kernel) rfl (pc' := 4) (ls' := [some (.ref 72), none, none, none, none]) (st' := [.int (M 72 11)]) (M' := M) rfl ⟨trivial, rfl, trivial⟩ ?_
  refine g_if_ne (off := 5) (tgt := 9) (by decide +kernel) (by decide) (fun c1 => ?_) (fun c1 => ?_)
  · refine blk 7 [(.iconst 0, 0, 0, (nI 0)), (.istore_n 1, 0, 0, 0), (.iconst 0, 0, 0, (nI 0)), (.istore_n 2, 0, 0, 0), (.iconst 0, 0, 0, (nI 0)), (.istore_n 3, 0, 0, 0)] [] (by decide +kernel) rfl (pc' := 15) (ls' := [some (.ref 72), some (.int (nI 0)), some (.int (nI 0)), some (.int (nI 0)), none]) (st' := []) (M' := M) rfl ⟨trivial, trivial, trivial, trivial, trivial, trivial, trivial⟩ ?_
    refine G.sub (ls' := [some (.ref 72), some (.int (nI 0)), some (.int (nI 0)), some (.int (nI 0)), none]) ?_ ⟨rfl, rfl, rfl, rfl, trivial⟩
    exact l_mpol (M := M) hn hn2 hn5 hlM (fun R h1 h2 h3 => ⟨rfl, h1, h2, h3⟩) l 0 0 0 C B W M hT (by omega) hro hps hW hLR ⟨fun _ _ => rfl, fun _ _ _ _ => rfl⟩ rfl
  · refine blk 7 [(.iconst (-1), 0, 0, (-1))] [] (by decide +kernel) rfl (pc' := 8) (ls' := [some (.ref 72), none, none, none, none]) (st' := [.int (-1)]) (M' := M) rfl ⟨trivial, trivial⟩ ?_
    exact absurd (by assumption) hlM
