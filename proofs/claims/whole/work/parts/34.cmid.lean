/-! the class: end, columns, child, worth, weight, total, at, mark -/
def endP (M : Mem) (n w : Nat) : Option Value → Mem → Prop := fun r N => r = some (.int (nI n)) ∧ N (41 + n) 1 = nI w ∧ (∀ k, k < w → N (41 + n + 5) k = M 76 k) ∧ N 71 1 = nI 0 ∧ N 0 7 = nI (n + 1) ∧ N 0 11 = nI 0 ∧ (∀ f, f ≠ 7 → f ≠ 11 → N 0 f = M 0 f) ∧ ∀ z, z ≠ 0 → z ≠ 71 → z ≠ 41 + n → z ≠ 41 + n + 5 → N z = M z
theorem s_end1 (M : Mem) {n w : Nat} (hw : M 71 1 = nI w) (hn : M 0 7 = nI n) (h0 : 0 < w) (hw12 : w ≤ 12) (hn5 : n < 5) : Spec mX6_end [.ref 0] M (endP M n w) := by
  refine Spec.of (by decide) (by simp [Value.category]) (Nat.le_of_ble_eq_true rfl) ?_
  refine blk 6 [(.aload_n 0, 0, 0, 0), (.getfield 18, 6, 1, 0), (.getfield 59, 2, 1, 0)] [] (by decide +kernel) rfl (pc' := 7) (ls' := [some (.ref 0)]) (st' := [.int (M 71 1)]) (M' := M) rfl ⟨trivial, rfl, rfl, trivial⟩ ?_
  refine g_if_eq (off := 11) (tgt := 18) (by decide +kernel) (by decide) (fun c1 => ?_) (fun c1 => ?_)
  · have nc1 : w = 0 := (nI_eq (by omega) (by omega)).mp (by simpa only [hw, hn, hn, nI_add, pk_mul, nI_s1, n0_lit] using c1)
    refine blk 6 [(.iconst (-1), 0, 0, (-1))] [] (by decide +kernel) rfl (pc' := 19) (ls' := [some (.ref 0)]) (st' := [.int (-1)]) (M' := M) rfl ⟨trivial, trivial⟩ ?_
    exfalso
    omega
  · have nc1 : w ≠ 0 := by
      have z : ¬ nI w = nI 0 := by simpa only [hw, hn, hn, nI_add, pk_mul, nI_s1, n0_lit] using c1
      rw [nI_eq (by omega) (by omega)] at z
      omega
    refine blk 6 [(.aload_n 0, 0, 0, 0), (.getfield 67, 6, 7, 0), (.iconst 5, 0, 0, (nI 5))] [] (by decide +kernel) rfl (pc' := 15) (ls' := [some (.ref 0)]) (st' := [.int (nI 5), .int (M 0 7)]) (M' := M) rfl ⟨trivial, rfl, trivial, trivial⟩ ?_
    refine g_icmp_lt (off := 5) (tgt := 20) (by decide +kernel) (by decide) (fun c2 => ?_) (fun c2 => ?_)
    · have nc2 : n < 5 := (nI_ltI (by omega) (by omega)).mp (by simpa only [hw, hn, hn, nI_add, pk_mul, nI_s1, n0_lit] using c2)
      refine blk 6 [(.aload_n 0, 0, 0, 0), (.getfield 11, 6, 0, 0), (.aload_n 0, 0, 0, 0), (.getfield 67, 6, 7, 0), (.aaload, 0, 0, 0), (.aload_n 0, 0, 0, 0), (.getfield 18, 6, 1, 0)] [n] (by decide +kernel) rfl (pc' := 33) (ls' := [some (.ref 0)]) (st' := [.ref 71, .ref (41 + n)]) (M' := M) rfl ⟨trivial, rfl, trivial, rfl, ⟨(by simp only [hw, hn, hn, nI_add, pk_mul, nI_s1, Nat.reduceAdd, Nat.reduceMul]), (by show _ < 5; omega)⟩, trivial, rfl, trivial⟩ ?_
      refine g_callV (s_copy M (t := 41 + n) (u := 71) (w := w) (kd41 (by omega)) rfl hw (by rw [al46 (by omega)]; omega) (by show w ≤ 12; omega) (by omega) (by decide) (kd46 (by omega)) rfl (by omega)) ok_X6_end_X2_copy (by decide +kernel) rfl (c := 2) (kd41 (by omega)) (by decide) rfl (Nat.le_of_ble_eq_true rfl) (fun r A h => ?_) (by rfl)
      obtain ⟨hr, a1, a2, a3⟩ := h
      rw [hr]
      have a0 : A 0 = M 0 := a3 0 (by omega) (by omega)
      have hnA : A 0 7 = nI n := by rw [a0]; exact hn
      show G _ 36 [some (.ref 0)] [] A _
      refine blk 6 [(.aload_n 0, 0, 0, 0), (.getfield 18, 6, 1, 0), (.iconst 0, 0, 0, (nI 0)), (.putfield 59, 2, 1, 0), (.aload_n 0, 0, 0, 0), (.dup, 0, 0, 0), (.getfield 67, 6, 7, 0), (.iconst 1, 0, 0, (nI 1)), (.iadd, 0, 0, 0), (.putfield 67, 6, 7, 0), (.aload_n 0, 0, 0, 0), (.iconst 0, 0, 0, (nI 0)), (.putfield 74, 6, 11, 0), (.aload_n 0, 0, 0, 0), (.getfield 67, 6, 7, 0), (.iconst 1, 0, 0, (nI 1)), (.isub, 0, 0, 0)] [] (by decide +kernel) rfl (pc' := 65) (ls' := [some (.ref 0)]) (st' := [.int (((A 0 7) + (nI 1)) - (nI 1))]) (M' := stm (stm (stm A 71 1 (nI 0)) 0 7 ((A 0 7) + (nI 1))) 0 11 (nI 0)) rfl ⟨trivial, rfl, trivial, rfl, trivial, rfl, rfl, trivial, trivial, rfl, trivial, trivial, ⟨rfl, Or.inl rfl⟩, trivial, rfl, trivial, trivial, trivial⟩ ?_
      refine g_ireturn (by decide +kernel) rfl rfl ⟨congrArg some (congrArg Value.int ?_), ?_, fun k hk => ?_, ?_, ?_, ?_, fun f h1 h2 => ?_, fun z h1 h2 h3 h4 => ?_⟩
      · rw [hnA, nI_add, nI_s1]
      · rw [stm_ne (by omega), stm_ne (by omega), stm_ne (by omega)]; exact a1
      · rw [stm_ne (by omega), stm_ne (by omega), stm_ne (by omega)]; exact a2 k hk
      · rw [stm_ne (by decide), stm_ne (by decide), stm_self]
      · rw [stm_off (by decide), stm_self, hnA, nI_add]
      · rw [stm_self]
      · rw [stm_off h2, stm_off h1, stm_ne (by decide), a0]
      · rw [stm_ne h1, stm_ne h1, stm_ne h2]; exact a3 z h3 h4
    · have nc2 : 5 ≤ n := by
        have z : ¬ nI n < nI 5 := by simpa only [hw, hn, hn, nI_add, pk_mul, nI_s1, n0_lit] using c2
        rw [nI_ltI (by omega) (by omega)] at z
        omega
      refine blk 6 [(.iconst (-1), 0, 0, (-1))] [] (by decide +kernel) rfl (pc' := 19) (ls' := [some (.ref 0)]) (st' := [.int (-1)]) (M' := M) rfl ⟨trivial, trivial⟩ ?_
      exfalso
      omega
theorem s_end0 (M : Mem) {n w : Nat} (hw : M 71 1 = nI w) (hn : M 0 7 = nI n) (hw12 : w ≤ 12) (hn5 : n ≤ 5) (hno : w = 0 ∨ n = 5) : Spec mX6_end [.ref 0] M (Ret (-1) M) := by
  refine Spec.of (by decide) (by simp [Value.category]) (Nat.le_of_ble_eq_true rfl) ?_
  refine blk 6 [(.aload_n 0, 0, 0, 0), (.getfield 18, 6, 1, 0), (.getfield 59, 2, 1, 0)] [] (by decide +kernel) rfl (pc' := 7) (ls' := [some (.ref 0)]) (st' := [.int (M 71 1)]) (M' := M) rfl ⟨trivial, rfl, rfl, trivial⟩ ?_
  refine g_if_eq (off := 11) (tgt := 18) (by decide +kernel) (by decide) (fun c1 => ?_) (fun c1 => ?_)
  · have nc1 : w = 0 := (nI_eq (by omega) (by omega)).mp (by simpa only [hw, hn, nI_add, pk_mul, nI_s1, n0_lit] using c1)
    refine blk 6 [(.iconst (-1), 0, 0, (-1))] [] (by decide +kernel) rfl (pc' := 19) (ls' := [some (.ref 0)]) (st' := [.int (-1)]) (M' := M) rfl ⟨trivial, trivial⟩ ?_
    exact g_ireturn (by decide +kernel) rfl rfl ⟨rfl, rfl⟩
  · have nc1 : w ≠ 0 := by
      have z : ¬ nI w = nI 0 := by simpa only [hw, hn, nI_add, pk_mul, nI_s1, n0_lit] using c1
      rw [nI_eq (by omega) (by omega)] at z
      omega
    refine blk 6 [(.aload_n 0, 0, 0, 0), (.getfield 67, 6, 7, 0), (.iconst 5, 0, 0, (nI 5))] [] (by decide +kernel) rfl (pc' := 15) (ls' := [some (.ref 0)]) (st' := [.int (nI 5), .int (M 0 7)]) (M' := M) rfl ⟨trivial, rfl, trivial, trivial⟩ ?_
    refine g_icmp_lt (off := 5) (tgt := 20) (by decide +kernel) (by decide) (fun c2 => ?_) (fun c2 => ?_)
    · have nc2 : n < 5 := (nI_ltI (by omega) (by omega)).mp (by simpa only [hw, hn, nI_add, pk_mul, nI_s1, n0_lit] using c2)
      exfalso
      omega
    · have nc2 : 5 ≤ n := by
        have z : ¬ nI n < nI 5 := by simpa only [hw, hn, nI_add, pk_mul, nI_s1, n0_lit] using c2
        rw [nI_ltI (by omega) (by omega)] at z
        omega
      refine blk 6 [(.iconst (-1), 0, 0, (-1))] [] (by decide +kernel) rfl (pc' := 19) (ls' := [some (.ref 0)]) (st' := [.int (-1)]) (M' := M) rfl ⟨trivial, trivial⟩ ?_
      exact g_ireturn (by decide +kernel) rfl rfl ⟨rfl, rfl⟩
def colF (M : Mem) (B : Nat) : Int32 := if M 0 11 = 0 then nI 0 else M B 1
theorem s_cols35 (M : Mem) (hL : (M 0 5).toNatClampNeg = 35) : Spec mX6_columns [.ref 0] M (Ret (colF M 51) M) := by
  refine Spec.of (by decide) (by simp [Value.category]) (Nat.le_of_ble_eq_true rfl) ?_
  refine blk 6 [(.aload_n 0, 0, 0, 0), (.getfield 74, 6, 11, 0)] [] (by decide +kernel) rfl (pc' := 4) (ls' := [some (.ref 0)]) (st' := [.int (M 0 11)]) (M' := M) rfl ⟨trivial, rfl, trivial⟩ ?_
  refine g_if_eq (off := 18) (tgt := 22) (by decide +kernel) (by decide) (fun c1 => ?_) (fun c1 => ?_)
  · refine blk 6 [(.iconst 0, 0, 0, (nI 0))] [] (by decide +kernel) rfl (pc' := 23) (ls' := [some (.ref 0)]) (st' := [.int (nI 0)]) (M' := M) rfl ⟨trivial, trivial⟩ ?_
    exact g_ireturn (by decide +kernel) rfl rfl ⟨by unfold colF; simp [*], rfl⟩
  · refine blk 6 [(.aload_n 0, 0, 0, 0), (.getfield 48, 6, 5, 0)] [] (by decide +kernel) rfl (pc' := 11) (ls' := [some (.ref 0)]) (st' := [.ref ((M 0 5).toNatClampNeg)]) (M' := M) rfl ⟨trivial, rfl, trivial⟩ ?_
    rw [show (M 0 5).toNatClampNeg = 35 from hL]
    refine blk 6 [(.getfield 120, 3, 0, 0), (.iconst 0, 0, 0, (nI 0)), (.aaload, 0, 0, 0), (.getfield 59, 2, 1, 0), (.goto (4), 23, 0, 0)] [0] (by decide +kernel) rfl (pc' := 23) (ls' := [some (.ref 0)]) (st' := [.int (M 51 1)]) (M' := M) rfl ⟨rfl, trivial, ⟨rfl, (by decide)⟩, rfl, trivial, trivial⟩ ?_
    exact g_ireturn (by decide +kernel) rfl rfl ⟨by unfold colF; simp [*], rfl⟩
theorem s_cols37 (M : Mem) (hL : (M 0 5).toNatClampNeg = 37) : Spec mX6_columns [.ref 0] M (Ret (colF M 61) M) := by
  refine Spec.of (by decide) (by simp [Value.category]) (Nat.le_of_ble_eq_true rfl) ?_
  refine blk 6 [(.aload_n 0, 0, 0, 0), (.getfield 74, 6, 11, 0)] [] (by decide +kernel) rfl (pc' := 4) (ls' := [some (.ref 0)]) (st' := [.int (M 0 11)]) (M' := M) rfl ⟨trivial, rfl, trivial⟩ ?_
  refine g_if_eq (off := 18) (tgt := 22) (by decide +kernel) (by decide) (fun c1 => ?_) (fun c1 => ?_)
  · refine blk 6 [(.iconst 0, 0, 0, (nI 0))] [] (by decide +kernel) rfl (pc' := 23) (ls' := [some (.ref 0)]) (st' := [.int (nI 0)]) (M' := M) rfl ⟨trivial, trivial⟩ ?_
    exact g_ireturn (by decide +kernel) rfl rfl ⟨by unfold colF; simp [*], rfl⟩
  · refine blk 6 [(.aload_n 0, 0, 0, 0), (.getfield 48, 6, 5, 0)] [] (by decide +kernel) rfl (pc' := 11) (ls' := [some (.ref 0)]) (st' := [.ref ((M 0 5).toNatClampNeg)]) (M' := M) rfl ⟨trivial, rfl, trivial⟩ ?_
    rw [show (M 0 5).toNatClampNeg = 37 from hL]
    refine blk 6 [(.getfield 120, 3, 0, 0), (.iconst 0, 0, 0, (nI 0)), (.aaload, 0, 0, 0), (.getfield 59, 2, 1, 0), (.goto (4), 23, 0, 0)] [0] (by decide +kernel) rfl (pc' := 23) (ls' := [some (.ref 0)]) (st' := [.int (M 61 1)]) (M' := M) rfl ⟨rfl, trivial, ⟨rfl, (by decide)⟩, rfl, trivial, trivial⟩ ?_
    exact g_ireturn (by decide +kernel) rfl rfl ⟨by unfold colF; simp [*], rfl⟩
def innB (L W Nn i : Int32) : Bool := decide (¬ L = 0 ∧ ¬ i < W ∧ ¬ Nn ≤ i)
theorem s_isInner (M : Mem) (i : Int32) : Spec mX6_isInnerNode [.ref 0, .int i] M (Ret (bI (innB (M 0 11) (M 0 7) (M 16 10) i)) M) := by
  refine Spec.of (by decide) (by simp [Value.category]) (Nat.le_of_ble_eq_true rfl) ?_
  refine blk 6 [(.aload_n 0, 0, 0, 0), (.getfield 74, 6, 11, 0)] [] (by decide +kernel) rfl (pc' := 4) (ls' := [some (.ref 0), some (.int i)]) (st' := [.int (M 0 11)]) (M' := M) rfl ⟨trivial, rfl, trivial⟩ ?_
  refine g_if_eq (off := 26) (tgt := 30) (by decide +kernel) (by decide) (fun c1 => ?_) (fun c1 => ?_)
  · refine blk 6 [(.iconst 0, 0, 0, (nI 0))] [] (by decide +kernel) rfl (pc' := 31) (ls' := [some (.ref 0), some (.int i)]) (st' := [.int (nI 0)]) (M' := M) rfl ⟨trivial, trivial⟩ ?_
    refine g_ireturn (by decide +kernel) rfl (by decide +kernel) ⟨?_, rfl⟩
    rw [show innB (M 0 11) (M 0 7) (M 16 10) i = false from decide_eq_false (fun z => by first | exact z.1 c1 | exact z.2.1 c2 | exact z.2.2 c3)]; rfl
  · refine blk 6 [(.iload_n 1, 0, 0, 0), (.aload_n 0, 0, 0, 0), (.getfield 67, 6, 7, 0)] [] (by decide +kernel) rfl (pc' := 12) (ls' := [some (.ref 0), some (.int i)]) (st' := [.int (M 0 7), .int i]) (M' := M) rfl ⟨trivial, trivial, rfl, trivial⟩ ?_
    refine g_icmp_lt (off := 18) (tgt := 30) (by decide +kernel) (by decide) (fun c2 => ?_) (fun c2 => ?_)
    · refine blk 6 [(.iconst 0, 0, 0, (nI 0))] [] (by decide +kernel) rfl (pc' := 31) (ls' := [some (.ref 0), some (.int i)]) (st' := [.int (nI 0)]) (M' := M) rfl ⟨trivial, trivial⟩ ?_
      refine g_ireturn (by decide +kernel) rfl (by decide +kernel) ⟨?_, rfl⟩
      rw [show innB (M 0 11) (M 0 7) (M 16 10) i = false from decide_eq_false (fun z => by first | exact z.1 c1 | exact z.2.1 c2 | exact z.2.2 c3)]; rfl
    · refine blk 6 [(.iload_n 1, 0, 0, 0), (.aload_n 0, 0, 0, 0), (.getfield 41, 6, 4, 0), (.getfield 188, 5, 10, 0)] [] (by decide +kernel) rfl (pc' := 23) (ls' := [some (.ref 0), some (.int i)]) (st' := [.int (M 16 10), .int i]) (M' := M) rfl ⟨trivial, trivial, rfl, rfl, trivial⟩ ?_
      refine g_icmp_ge (off := 7) (tgt := 30) (by decide +kernel) (by decide) (fun c3 => ?_) (fun c3 => ?_)
      · refine blk 6 [(.iconst 0, 0, 0, (nI 0))] [] (by decide +kernel) rfl (pc' := 31) (ls' := [some (.ref 0), some (.int i)]) (st' := [.int (nI 0)]) (M' := M) rfl ⟨trivial, trivial⟩ ?_
        refine g_ireturn (by decide +kernel) rfl (by decide +kernel) ⟨?_, rfl⟩
        rw [show innB (M 0 11) (M 0 7) (M 16 10) i = false from decide_eq_false (fun z => by first | exact z.1 c1 | exact z.2.1 c2 | exact z.2.2 c3)]; rfl
      · refine blk 6 [(.iconst 1, 0, 0, (nI 1)), (.goto (4), 31, 0, 0)] [] (by decide +kernel) rfl (pc' := 31) (ls' := [some (.ref 0), some (.int i)]) (st' := [.int (nI 1)]) (M' := M) rfl ⟨trivial, trivial, trivial⟩ ?_
        refine g_ireturn (by decide +kernel) rfl (by decide +kernel) ⟨?_, rfl⟩
        rw [show innB (M 0 11) (M 0 7) (M 16 10) i = true from decide_eq_true ⟨c1, c2, c3⟩]; rfl
theorem s_worth1 (M : Mem) {i : Nat} (hi : i < 9) (hin : innB (M 0 11) (M 0 7) (M 16 10) (nI i) = true) : Spec mX6_worth [.ref 0, .int (nI i)] M (Ret (M 19 i) M) := by
  refine Spec.of (by decide) (by simp [Value.category]) (Nat.le_of_ble_eq_true rfl) ?_
  refine blk 6 [(.aload_n 0, 0, 0, 0), (.iload_n 1, 0, 0, 0)] [] (by decide +kernel) rfl (pc' := 2) (ls' := [some (.ref 0), some (.int (nI i))]) (st' := [.int (nI i), .ref 0]) (M' := M) rfl ⟨trivial, trivial, trivial⟩ ?_
  refine g_callV (s_isInner _ (nI i)) ok_X6_worth_X6_isInnerNode (by decide +kernel) rfl (c := 6) rfl (by decide) rfl (Nat.le_of_ble_eq_true rfl) (fun r M' h => ?_) rfl
  obtain ⟨hr, hM⟩ := h
  rw [hr, hM]
  show G _ 5 [some (.ref 0), some (.int (nI i))] [.int (bI (innB (M 0 11) (M 0 7) (M 16 10) (nI i)))] M _
  refine g_if_eq (off := 15) (tgt := 20) (by decide +kernel) (by decide) (fun c1 => ?_) (fun c1 => ?_)
  · refine blk 6 [(.iconst 0, 0, 0, (nI 0))] [] (by decide +kernel) rfl (pc' := 21) (ls' := [some (.ref 0), some (.int (nI i))]) (st' := [.int (nI 0)]) (M' := M) rfl ⟨trivial, trivial⟩ ?_
    exact absurd (bI_eq c1) (by rw [hin]; decide)
  · refine blk 6 [(.aload_n 0, 0, 0, 0), (.getfield 41, 6, 4, 0), (.getfield 175, 5, 2, 0), (.iload_n 1, 0, 0, 0), (.iaload, 0, 0, 0), (.goto (4), 21, 0, 0)] [i] (by decide +kernel) rfl (pc' := 21) (ls' := [some (.ref 0), some (.int (nI i))]) (st' := [.int (M 19 i)]) (M' := M) rfl ⟨trivial, rfl, rfl, trivial, ⟨rfl, (by show _ < 9; omega)⟩, trivial, trivial⟩ ?_
    exact g_ireturn (by decide +kernel) rfl rfl ⟨rfl, rfl⟩
theorem s_worth0 (M : Mem) {i : Int32} (hin : innB (M 0 11) (M 0 7) (M 16 10) i = false) : Spec mX6_worth [.ref 0, .int i] M (Ret 0 M) := by
  refine Spec.of (by decide) (by simp [Value.category]) (Nat.le_of_ble_eq_true rfl) ?_
  refine blk 6 [(.aload_n 0, 0, 0, 0), (.iload_n 1, 0, 0, 0)] [] (by decide +kernel) rfl (pc' := 2) (ls' := [some (.ref 0), some (.int i)]) (st' := [.int i, .ref 0]) (M' := M) rfl ⟨trivial, trivial, trivial⟩ ?_
  refine g_callV (s_isInner _ i) ok_X6_worth_X6_isInnerNode (by decide +kernel) rfl (c := 6) rfl (by decide) rfl (Nat.le_of_ble_eq_true rfl) (fun r M' h => ?_) rfl
  obtain ⟨hr, hM⟩ := h
  rw [hr, hM]
  show G _ 5 [some (.ref 0), some (.int i)] [.int (bI (innB (M 0 11) (M 0 7) (M 16 10) i))] M _
  refine g_if_eq (off := 15) (tgt := 20) (by decide +kernel) (by decide) (fun c1 => ?_) (fun c1 => ?_)
  · refine blk 6 [(.iconst 0, 0, 0, (nI 0))] [] (by decide +kernel) rfl (pc' := 21) (ls' := [some (.ref 0), some (.int i)]) (st' := [.int (nI 0)]) (M' := M) rfl ⟨trivial, trivial⟩ ?_
    exact g_ireturn (by decide +kernel) rfl rfl ⟨rfl, rfl⟩
  · exact absurd (bI_ne c1) (by rw [hin]; decide)
theorem s_child1 (M : Mem) {i s : Nat} (hi : i < 9) (hs : s < 2) (hin : innB (M 0 11) (M 0 7) (M 16 10) (nI i) = true) : Spec mX6_child [.ref 0, .int (nI i), .int (nI s)] M (Ret (if s = 0 then M 17 i else M 18 i) M) := by
  refine Spec.of (by decide) (by simp [Value.category]) (Nat.le_of_ble_eq_true rfl) ?_
  refine blk 6 [(.aload_n 0, 0, 0, 0), (.iload_n 1, 0, 0, 0)] [] (by decide +kernel) rfl (pc' := 2) (ls' := [some (.ref 0), some (.int (nI i)), some (.int (nI s))]) (st' := [.int (nI i), .ref 0]) (M' := M) rfl ⟨trivial, trivial, trivial⟩ ?_
  refine g_callV (s_isInner _ (nI i)) ok_X6_child_X6_isInnerNode (by decide +kernel) rfl (c := 6) rfl (by decide) rfl (Nat.le_of_ble_eq_true rfl) (fun r M' h => ?_) rfl
  obtain ⟨hr, hM⟩ := h
  rw [hr, hM]
  show G _ 5 [some (.ref 0), some (.int (nI i)), some (.int (nI s))] [.int (bI (innB (M 0 11) (M 0 7) (M 16 10) (nI i)))] M _
  refine g_if_eq (off := 12) (tgt := 17) (by decide +kernel) (by decide) (fun c1 => ?_) (fun c1 => ?_)
  · refine blk 6 [(.iconst (-1), 0, 0, (-1))] [] (by decide +kernel) rfl (pc' := 18) (ls' := [some (.ref 0), some (.int (nI i)), some (.int (nI s))]) (st' := [.int (-1)]) (M' := M) rfl ⟨trivial, trivial⟩ ?_
    exfalso
    first | omega | exact absurd (bI_eq c1) (by rw [hin]; decide)
  · refine blk 6 [(.iload_n 2, 0, 0, 0)] [] (by decide +kernel) rfl (pc' := 9) (ls' := [some (.ref 0), some (.int (nI i)), some (.int (nI s))]) (st' := [.int (nI s)]) (M' := M) rfl ⟨trivial, trivial⟩ ?_
    refine g_if_lt (off := 8) (tgt := 17) (by decide +kernel) (by decide) (fun c2 => ?_) (fun c2 => ?_)
    · have nc2 : s < 0 := (nI_ltI (by omega) (by omega)).mp (by simpa only [nI_add, pk_mul, nI_s1, n0_lit] using c2)
      refine blk 6 [(.iconst (-1), 0, 0, (-1))] [] (by decide +kernel) rfl (pc' := 18) (ls' := [some (.ref 0), some (.int (nI i)), some (.int (nI s))]) (st' := [.int (-1)]) (M' := M) rfl ⟨trivial, trivial⟩ ?_
      exfalso
      first | omega | exact absurd (bI_eq c1) (by rw [hin]; decide)
    · have nc2 : 0 ≤ s := by
        have z : ¬ nI s < nI 0 := by simpa only [nI_add, pk_mul, nI_s1, n0_lit] using c2
        rw [nI_ltI (by omega) (by omega)] at z
        omega
      refine blk 6 [(.iload_n 2, 0, 0, 0), (.iconst 1, 0, 0, (nI 1))] [] (by decide +kernel) rfl (pc' := 14) (ls' := [some (.ref 0), some (.int (nI i)), some (.int (nI s))]) (st' := [.int (nI 1), .int (nI s)]) (M' := M) rfl ⟨trivial, trivial, trivial⟩ ?_
      refine g_icmp_le (off := 5) (tgt := 19) (by decide +kernel) (by decide) (fun c3 => ?_) (fun c3 => ?_)
      · have nc3 : s ≤ 1 := (nI_leI (by omega) (by omega)).mp (by simpa only [nI_add, pk_mul, nI_s1, n0_lit] using c3)
        refine blk 6 [(.iload_n 2, 0, 0, 0)] [] (by decide +kernel) rfl (pc' := 20) (ls' := [some (.ref 0), some (.int (nI i)), some (.int (nI s))]) (st' := [.int (nI s)]) (M' := M) rfl ⟨trivial, trivial⟩ ?_
        refine g_if_ne (off := 15) (tgt := 35) (by decide +kernel) (by decide) (fun c4 => ?_) (fun c4 => ?_)
        · have nc4 : s ≠ 0 := by
            have z : ¬ nI s = nI 0 := by simpa only [nI_add, pk_mul, nI_s1, n0_lit] using c4
            rw [nI_eq (by omega) (by omega)] at z
            omega
          refine blk 6 [(.aload_n 0, 0, 0, 0), (.getfield 41, 6, 4, 0), (.getfield 172, 5, 1, 0), (.iload_n 1, 0, 0, 0), (.iaload, 0, 0, 0)] [i] (by decide +kernel) rfl (pc' := 44) (ls' := [some (.ref 0), some (.int (nI i)), some (.int (nI s))]) (st' := [.int (M 18 i)]) (M' := M) rfl ⟨trivial, rfl, rfl, trivial, ⟨rfl, (by show _ < 9; omega)⟩, trivial⟩ ?_
          exact g_ireturn (by decide +kernel) rfl rfl ⟨by simp [*], rfl⟩
        · have nc4 : s = 0 := (nI_eq (by omega) (by omega)).mp (by simpa only [nI_add, pk_mul, nI_s1, n0_lit] using c4)
          refine blk 6 [(.aload_n 0, 0, 0, 0), (.getfield 41, 6, 4, 0), (.getfield 169, 5, 0, 0), (.iload_n 1, 0, 0, 0), (.iaload, 0, 0, 0), (.goto (12), 44, 0, 0)] [i] (by decide +kernel) rfl (pc' := 44) (ls' := [some (.ref 0), some (.int (nI i)), some (.int (nI s))]) (st' := [.int (M 17 i)]) (M' := M) rfl ⟨trivial, rfl, rfl, trivial, ⟨rfl, (by show _ < 9; omega)⟩, trivial, trivial⟩ ?_
          exact g_ireturn (by decide +kernel) rfl rfl ⟨by simp [*], rfl⟩
      · have nc3 : 1 < s := by
          have z : ¬ nI s ≤ nI 1 := by simpa only [nI_add, pk_mul, nI_s1, n0_lit] using c3
          rw [nI_leI (by omega) (by omega)] at z
          omega
        refine blk 6 [(.iconst (-1), 0, 0, (-1))] [] (by decide +kernel) rfl (pc' := 18) (ls' := [some (.ref 0), some (.int (nI i)), some (.int (nI s))]) (st' := [.int (-1)]) (M' := M) rfl ⟨trivial, trivial⟩ ?_
        exfalso
        first | omega | exact absurd (bI_eq c1) (by rw [hin]; decide)
theorem s_child0 (M : Mem) {i s : Int32} (hno : ¬ (innB (M 0 11) (M 0 7) (M 16 10) i = true ∧ ¬ s < 0 ∧ s ≤ nI 1)) : Spec mX6_child [.ref 0, .int i, .int s] M (Ret (-1) M) := by
  refine Spec.of (by decide) (by simp [Value.category]) (Nat.le_of_ble_eq_true rfl) ?_
  refine blk 6 [(.aload_n 0, 0, 0, 0), (.iload_n 1, 0, 0, 0)] [] (by decide +kernel) rfl (pc' := 2) (ls' := [some (.ref 0), some (.int i), some (.int s)]) (st' := [.int i, .ref 0]) (M' := M) rfl ⟨trivial, trivial, trivial⟩ ?_
  refine g_callV (s_isInner _ i) ok_X6_child_X6_isInnerNode (by decide +kernel) rfl (c := 6) rfl (by decide) rfl (Nat.le_of_ble_eq_true rfl) (fun r M' h => ?_) rfl
  obtain ⟨hr, hM⟩ := h
  rw [hr, hM]
  show G _ 5 [some (.ref 0), some (.int i), some (.int s)] [.int (bI (innB (M 0 11) (M 0 7) (M 16 10) i))] M _
  refine g_if_eq (off := 12) (tgt := 17) (by decide +kernel) (by decide) (fun c1 => ?_) (fun c1 => ?_)
  · refine blk 6 [(.iconst (-1), 0, 0, (-1))] [] (by decide +kernel) rfl (pc' := 18) (ls' := [some (.ref 0), some (.int i), some (.int s)]) (st' := [.int (-1)]) (M' := M) rfl ⟨trivial, trivial⟩ ?_
    exact g_ireturn (by decide +kernel) rfl rfl ⟨rfl, rfl⟩
  · refine blk 6 [(.iload_n 2, 0, 0, 0)] [] (by decide +kernel) rfl (pc' := 9) (ls' := [some (.ref 0), some (.int i), some (.int s)]) (st' := [.int s]) (M' := M) rfl ⟨trivial, trivial⟩ ?_
    refine g_if_lt (off := 8) (tgt := 17) (by decide +kernel) (by decide) (fun c2 => ?_) (fun c2 => ?_)
    · refine blk 6 [(.iconst (-1), 0, 0, (-1))] [] (by decide +kernel) rfl (pc' := 18) (ls' := [some (.ref 0), some (.int i), some (.int s)]) (st' := [.int (-1)]) (M' := M) rfl ⟨trivial, trivial⟩ ?_
      exact g_ireturn (by decide +kernel) rfl rfl ⟨rfl, rfl⟩
    · refine blk 6 [(.iload_n 2, 0, 0, 0), (.iconst 1, 0, 0, (nI 1))] [] (by decide +kernel) rfl (pc' := 14) (ls' := [some (.ref 0), some (.int i), some (.int s)]) (st' := [.int (nI 1), .int s]) (M' := M) rfl ⟨trivial, trivial, trivial⟩ ?_
      refine g_icmp_le (off := 5) (tgt := 19) (by decide +kernel) (by decide) (fun c3 => ?_) (fun c3 => ?_)
      · exact absurd ⟨bI_ne c1, c2, c3⟩ hno
      · refine blk 6 [(.iconst (-1), 0, 0, (-1))] [] (by decide +kernel) rfl (pc' := 18) (ls' := [some (.ref 0), some (.int i), some (.int s)]) (st' := [.int (-1)]) (M' := M) rfl ⟨trivial, trivial⟩ ?_
        exact g_ireturn (by decide +kernel) rfl rfl ⟨rfl, rfl⟩
theorem s_weight1 (M : Mem) {i : Nat} (hi : i < 5) (hl : ¬ M 0 11 = 0) (hw : wrdB (M 0 7) (nI i) = true) : Spec mX6_weight [.ref 0, .int (nI i)] M (Ret (M 24 i) M) := by
  refine Spec.of (by decide) (by simp [Value.category]) (Nat.le_of_ble_eq_true rfl) ?_
  refine blk 6 [(.aload_n 0, 0, 0, 0), (.getfield 74, 6, 11, 0)] [] (by decide +kernel) rfl (pc' := 4) (ls' := [some (.ref 0), some (.int (nI i))]) (st' := [.int (M 0 11)]) (M' := M) rfl ⟨trivial, rfl, trivial⟩ ?_
  refine g_if_eq (off := 23) (tgt := 27) (by decide +kernel) (by decide) (fun c1 => ?_) (fun c1 => ?_)
  · refine blk 6 [(.iconst 0, 0, 0, (nI 0))] [] (by decide +kernel) rfl (pc' := 28) (ls' := [some (.ref 0), some (.int (nI i))]) (st' := [.int (nI 0)]) (M' := M) rfl ⟨trivial, trivial⟩ ?_
    exfalso
    first | exact hl c1 | exact absurd (bI_eq c2) (by rw [hw]; decide)
  · refine blk 6 [(.aload_n 0, 0, 0, 0), (.iload_n 1, 0, 0, 0)] [] (by decide +kernel) rfl (pc' := 9) (ls' := [some (.ref 0), some (.int (nI i))]) (st' := [.int (nI i), .ref 0]) (M' := M) rfl ⟨trivial, trivial, trivial⟩ ?_
    refine g_callV (s_isWord _ (nI i)) ok_X6_weight_X6_isWord (by decide +kernel) rfl (c := 6) rfl (by decide) rfl (Nat.le_of_ble_eq_true rfl) (fun r M' h => ?_) rfl
    obtain ⟨hr, hM⟩ := h
    rw [hr, hM]
    show G _ 12 [some (.ref 0), some (.int (nI i))] [.int (bI (wrdB (M 0 7) (nI i)))] M _
    refine g_if_eq (off := 15) (tgt := 27) (by decide +kernel) (by decide) (fun c2 => ?_) (fun c2 => ?_)
    · refine blk 6 [(.iconst 0, 0, 0, (nI 0))] [] (by decide +kernel) rfl (pc' := 28) (ls' := [some (.ref 0), some (.int (nI i))]) (st' := [.int (nI 0)]) (M' := M) rfl ⟨trivial, trivial⟩ ?_
      exfalso
      first | exact hl c1 | exact absurd (bI_eq c2) (by rw [hw]; decide)
    · refine blk 6 [(.aload_n 0, 0, 0, 0), (.getfield 41, 6, 4, 0), (.getfield 178, 5, 7, 0), (.iload_n 1, 0, 0, 0), (.iaload, 0, 0, 0), (.goto (4), 28, 0, 0)] [i] (by decide +kernel) rfl (pc' := 28) (ls' := [some (.ref 0), some (.int (nI i))]) (st' := [.int (M 24 i)]) (M' := M) rfl ⟨trivial, rfl, rfl, trivial, ⟨rfl, (by show _ < 5; omega)⟩, trivial, trivial⟩ ?_
      exact g_ireturn (by decide +kernel) rfl rfl ⟨rfl, rfl⟩
theorem s_weight0 (M : Mem) {i : Int32} (hno : ¬ (¬ M 0 11 = 0 ∧ wrdB (M 0 7) i = true)) : Spec mX6_weight [.ref 0, .int i] M (Ret 0 M) := by
  refine Spec.of (by decide) (by simp [Value.category]) (Nat.le_of_ble_eq_true rfl) ?_
  refine blk 6 [(.aload_n 0, 0, 0, 0), (.getfield 74, 6, 11, 0)] [] (by decide +kernel) rfl (pc' := 4) (ls' := [some (.ref 0), some (.int i)]) (st' := [.int (M 0 11)]) (M' := M) rfl ⟨trivial, rfl, trivial⟩ ?_
  refine g_if_eq (off := 23) (tgt := 27) (by decide +kernel) (by decide) (fun c1 => ?_) (fun c1 => ?_)
  · refine blk 6 [(.iconst 0, 0, 0, (nI 0))] [] (by decide +kernel) rfl (pc' := 28) (ls' := [some (.ref 0), some (.int i)]) (st' := [.int (nI 0)]) (M' := M) rfl ⟨trivial, trivial⟩ ?_
    exact g_ireturn (by decide +kernel) rfl rfl ⟨rfl, rfl⟩
  · refine blk 6 [(.aload_n 0, 0, 0, 0), (.iload_n 1, 0, 0, 0)] [] (by decide +kernel) rfl (pc' := 9) (ls' := [some (.ref 0), some (.int i)]) (st' := [.int i, .ref 0]) (M' := M) rfl ⟨trivial, trivial, trivial⟩ ?_
    refine g_callV (s_isWord _ i) ok_X6_weight_X6_isWord (by decide +kernel) rfl (c := 6) rfl (by decide) rfl (Nat.le_of_ble_eq_true rfl) (fun r M' h => ?_) rfl
    obtain ⟨hr, hM⟩ := h
    rw [hr, hM]
    show G _ 12 [some (.ref 0), some (.int i)] [.int (bI (wrdB (M 0 7) i))] M _
    refine g_if_eq (off := 15) (tgt := 27) (by decide +kernel) (by decide) (fun c2 => ?_) (fun c2 => ?_)
    · refine blk 6 [(.iconst 0, 0, 0, (nI 0))] [] (by decide +kernel) rfl (pc' := 28) (ls' := [some (.ref 0), some (.int i)]) (st' := [.int (nI 0)]) (M' := M) rfl ⟨trivial, trivial⟩ ?_
      exact g_ireturn (by decide +kernel) rfl rfl ⟨rfl, rfl⟩
    · exact absurd ⟨c1, bI_ne c2⟩ hno
theorem s_total1_35 (M : Mem) {n W : Nat} (hL : (M 0 5).toNatClampNeg = 35) (hl : ¬ M 0 11 = 0) (hn : M 0 7 = nI n) (hn5 : n ≤ 5) (hw : W ≤ 60) (hW : ∀ a, a < n → M (51 + a) 1 = nI W) (hc : ∀ a b, a < n → b < W → okc (M (51 + a + 5) b)) : Spec mX6_total [.ref 0] M (Ret (psum (fun i => psum (sopF M 51 W i) (n - (i + 1))) n) M) := by
  refine Spec.of (by decide) (by simp [Value.category]) (Nat.le_of_ble_eq_true rfl) ?_
  refine blk 6 [(.aload_n 0, 0, 0, 0), (.getfield 74, 6, 11, 0)] [] (by decide +kernel) rfl (pc' := 4) (ls' := [some (.ref 0)]) (st' := [.int (M 0 11)]) (M' := M) rfl ⟨trivial, rfl, trivial⟩ ?_
  refine g_if_eq (off := 28) (tgt := 32) (by decide +kernel) (by decide) (fun c1 => ?_) (fun c1 => ?_)
  · refine blk 6 [(.iconst 0, 0, 0, (nI 0))] [] (by decide +kernel) rfl (pc' := 33) (ls' := [some (.ref 0)]) (st' := [.int (nI 0)]) (M' := M) rfl ⟨trivial, trivial⟩ ?_
    exact absurd c1 hl
  · refine blk 6 [(.aload_n 0, 0, 0, 0), (.getfield 48, 6, 5, 0)] [] (by decide +kernel) rfl (pc' := 11) (ls' := [some (.ref 0)]) (st' := [.ref ((M 0 5).toNatClampNeg)]) (M' := M) rfl ⟨trivial, rfl, trivial⟩ ?_
    rw [show (M 0 5).toNatClampNeg = 35 from hL]
    refine blk 6 [(.aload_n 0, 0, 0, 0), (.getfield 67, 6, 7, 0), (.aload_n 0, 0, 0, 0), (.getfield 25, 6, 2, 0), (.aload_n 0, 0, 0, 0), (.getfield 41, 6, 4, 0), (.getfield 178, 5, 7, 0)] [] (by decide +kernel) rfl (pc' := 26) (ls' := [some (.ref 0)]) (st' := [.ref 24, .ref 2, .int (M 0 7), .ref 35]) (M' := M) rfl ⟨trivial, rfl, trivial, rfl, trivial, rfl, rfl, trivial⟩ ?_
    rw [hn]
    refine g_callV (s_sop35 M (n := n) (W := W) hn5 hw hW hc) ok_X6_total_X3_sumOverPairs (by decide +kernel) rfl (c := 3) rfl (by decide) rfl (Nat.le_of_ble_eq_true rfl) (fun r M' h => ?_) rfl
    obtain ⟨hr, hM⟩ := h
    rw [hr, hM]
    show G _ 29 [some (.ref 0)] [.int (psum (fun i => psum (sopF M 51 W i) (n - (i + 1))) n)] M _
    refine blk 6 [(.goto (4), 33, 0, 0)] [] (by decide +kernel) rfl (pc' := 33) (ls' := [some (.ref 0)]) (st' := [.int (psum (fun i => psum (sopF M 51 W i) (n - (i + 1))) n)]) (M' := M) rfl ⟨trivial, trivial⟩ ?_
    exact g_ireturn (by decide +kernel) rfl rfl ⟨rfl, rfl⟩
theorem s_total1_37 (M : Mem) {n W : Nat} (hL : (M 0 5).toNatClampNeg = 37) (hl : ¬ M 0 11 = 0) (hn : M 0 7 = nI n) (hn5 : n ≤ 5) (hw : W ≤ 60) (hW : ∀ a, a < n → M (61 + a) 1 = nI W) (hc : ∀ a b, a < n → b < W → okc (M (61 + a + 5) b)) : Spec mX6_total [.ref 0] M (Ret (psum (fun i => psum (sopF M 61 W i) (n - (i + 1))) n) M) := by
  refine Spec.of (by decide) (by simp [Value.category]) (Nat.le_of_ble_eq_true rfl) ?_
  refine blk 6 [(.aload_n 0, 0, 0, 0), (.getfield 74, 6, 11, 0)] [] (by decide +kernel) rfl (pc' := 4) (ls' := [some (.ref 0)]) (st' := [.int (M 0 11)]) (M' := M) rfl ⟨trivial, rfl, trivial⟩ ?_
  refine g_if_eq (off := 28) (tgt := 32) (by decide +kernel) (by decide) (fun c1 => ?_) (fun c1 => ?_)
  · refine blk 6 [(.iconst 0, 0, 0, (nI 0))] [] (by decide +kernel) rfl (pc' := 33) (ls' := [some (.ref 0)]) (st' := [.int (nI 0)]) (M' := M) rfl ⟨trivial, trivial⟩ ?_
    exact absurd c1 hl
  · refine blk 6 [(.aload_n 0, 0, 0, 0), (.getfield 48, 6, 5, 0)] [] (by decide +kernel) rfl (pc' := 11) (ls' := [some (.ref 0)]) (st' := [.ref ((M 0 5).toNatClampNeg)]) (M' := M) rfl ⟨trivial, rfl, trivial⟩ ?_
    rw [show (M 0 5).toNatClampNeg = 37 from hL]
    refine blk 6 [(.aload_n 0, 0, 0, 0), (.getfield 67, 6, 7, 0), (.aload_n 0, 0, 0, 0), (.getfield 25, 6, 2, 0), (.aload_n 0, 0, 0, 0), (.getfield 41, 6, 4, 0), (.getfield 178, 5, 7, 0)] [] (by decide +kernel) rfl (pc' := 26) (ls' := [some (.ref 0)]) (st' := [.ref 24, .ref 2, .int (M 0 7), .ref 37]) (M' := M) rfl ⟨trivial, rfl, trivial, rfl, trivial, rfl, rfl, trivial⟩ ?_
    rw [hn]
    refine g_callV (s_sop37 M (n := n) (W := W) hn5 hw hW hc) ok_X6_total_X3_sumOverPairs (by decide +kernel) rfl (c := 3) rfl (by decide) rfl (Nat.le_of_ble_eq_true rfl) (fun r M' h => ?_) rfl
    obtain ⟨hr, hM⟩ := h
    rw [hr, hM]
    show G _ 29 [some (.ref 0)] [.int (psum (fun i => psum (sopF M 61 W i) (n - (i + 1))) n)] M _
    refine blk 6 [(.goto (4), 33, 0, 0)] [] (by decide +kernel) rfl (pc' := 33) (ls' := [some (.ref 0)]) (st' := [.int (psum (fun i => psum (sopF M 61 W i) (n - (i + 1))) n)]) (M' := M) rfl ⟨trivial, trivial⟩ ?_
    exact g_ireturn (by decide +kernel) rfl rfl ⟨rfl, rfl⟩
theorem s_total0 (M : Mem) (hl : M 0 11 = 0) : Spec mX6_total [.ref 0] M (Ret 0 M) := by
  refine Spec.of (by decide) (by simp [Value.category]) (Nat.le_of_ble_eq_true rfl) ?_
  refine blk 6 [(.aload_n 0, 0, 0, 0), (.getfield 74, 6, 11, 0)] [] (by decide +kernel) rfl (pc' := 4) (ls' := [some (.ref 0)]) (st' := [.int (M 0 11)]) (M' := M) rfl ⟨trivial, rfl, trivial⟩ ?_
  refine g_if_eq (off := 28) (tgt := 32) (by decide +kernel) (by decide) (fun c1 => ?_) (fun c1 => ?_)
  · refine blk 6 [(.iconst 0, 0, 0, (nI 0))] [] (by decide +kernel) rfl (pc' := 33) (ls' := [some (.ref 0)]) (st' := [.int (nI 0)]) (M' := M) rfl ⟨trivial, trivial⟩ ?_
    exact g_ireturn (by decide +kernel) rfl rfl ⟨rfl, rfl⟩
  · exact absurd hl c1
