/-! the reference: leaves -/
theorem hbit_01 (S : Int32) (w : Nat) : hbit S w = 0 ∨ hbit S w = 1 := by
  unfold hbit
  obtain ⟨j, hj, e⟩ := pk_andE (S >>> (nI w &&& 31)) (m := nI 1) 1 (by decide +kernel)
  rw [e]
  rcases (show j = 0 ∨ j = 1 by omega) with rfl | rfl
  · exact Or.inl nI_0
  · exact Or.inr n1_lit
theorem s_isIn (M : Mem) (S : Int32) (w : Nat) : Spec mX7_isIn [.ref 72, .int S, .int (nI w)] M (Ret (hb S w) M) := by
  refine Spec.of (by decide) (by simp [Value.category]) (Nat.le_of_ble_eq_true rfl) ?_
  refine blk 7 [(.iload_n 1, 0, 0, 0), (.iload_n 2, 0, 0, 0), (.ishr, 0, 0, 0), (.iconst 1, 0, 0, (nI 1)), (.iand, 0, 0, 0), (.iconst 1, 0, 0, (nI 1))] [] (by decide +kernel) rfl (pc' := 6) (ls' := [some (.ref 72), some (.int S), some (.int (nI w))]) (st' := [.int (nI 1), .int ((S >>> ((nI w) &&& 31)) &&& (nI 1))]) (M' := M) rfl ⟨trivial, trivial, trivial, trivial, trivial, trivial, trivial⟩ ?_
  refine g_icmp_ne (off := 7) (tgt := 13) (by decide +kernel) (by decide) (fun c1 => ?_) (fun c1 => ?_)
  · refine blk 7 [(.iconst 0, 0, 0, (nI 0))] [] (by decide +kernel) rfl (pc' := 14) (ls' := [some (.ref 72), some (.int S), some (.int (nI w))]) (st' := [.int (nI 0)]) (M' := M) rfl ⟨trivial, trivial⟩ ?_
    refine g_ireturn (by decide +kernel) rfl (by decide) ⟨?_, rfl⟩
    unfold hb
    rw [if_pos (by rcases hbit_01 S w with z | z; exact z; exact absurd (show _ = nI 1 by rw [n1_lit]; exact z) c1)]; rfl
  · refine blk 7 [(.iconst 1, 0, 0, (nI 1)), (.goto (4), 14, 0, 0)] [] (by decide +kernel) rfl (pc' := 14) (ls' := [some (.ref 72), some (.int S), some (.int (nI w))]) (st' := [.int (nI 1)]) (M' := M) rfl ⟨trivial, trivial, trivial⟩ ?_
    refine g_ireturn (by decide +kernel) rfl (by decide) ⟨?_, rfl⟩
    unfold hb
    rw [if_neg (fun z => by rw [show hbit S w = nI 1 from c1, n1_lit] at z; exact absurd z (by decide))]; rfl
theorem s_entry (M : Mem) (i j l : Int32) : Spec mX7_entry [.ref 72, .int i, .int j, .int l] M (Ret (nI 3 * (nI 61 * i + j) + l) M) := by
  refine Spec.of (by decide) (by simp [Value.category]) (Nat.le_of_ble_eq_true rfl) ?_
  refine blk 7 [(.iconst 3, 0, 0, (nI 3)), (.bipush 61, 0, 0, (nI 61)), (.iload_n 1, 0, 0, 0), (.imul, 0, 0, 0), (.iload_n 2, 0, 0, 0), (.iadd, 0, 0, 0), (.imul, 0, 0, 0), (.iload_n 3, 0, 0, 0), (.iadd, 0, 0, 0)] [] (by decide +kernel) rfl (pc' := 10) (ls' := [some (.ref 72), some (.int i), some (.int j), some (.int l)]) (st' := [.int (((nI 3) * (((nI 61) * i) + j)) + l)]) (M' := M) rfl ⟨trivial, trivial, trivial, trivial, trivial, trivial, trivial, trivial, trivial, trivial⟩ ?_
  exact g_ireturn (by decide +kernel) rfl rfl ⟨rfl, rfl⟩
theorem l_wos {M : Mem} {S : Int32} : ∀ d i, d = 5 - i → i ≤ 5 → G mX7_weightOfSet 4 [some (.ref 72), some (.int S), some (.int (psum (whF M S 39) i)), some (.int (nI i))] [] M (Ret (psum (whF M S 39) 5) M) := by
  intro d
  induction d using Nat.strongRecOn with
  | ind d ih =>
    intro i hd hj
    refine blk 7 [(.iload_n 3, 0, 0, 0), (.iconst 5, 0, 0, (nI 5))] [] (by decide +kernel) rfl (pc' := 6) (ls' := [some (.ref 72), some (.int S), some (.int (psum (whF M S 39) i)), some (.int (nI i))]) (st' := [.int (nI 5), .int (nI i)]) (M' := M) rfl ⟨trivial, trivial, trivial⟩ ?_
    refine g_icmp_ge (off := 31) (tgt := 37) (by decide +kernel) (by decide) (fun c1 => ?_) (fun c1 => ?_)
    · have nc1 : 5 ≤ i := (nI_leI (by omega) (by omega)).mp (by simpa only [nI_add, pk_mul, nI_s1, n0_lit] using c1)
      refine blk 7 [(.iload_n 2, 0, 0, 0)] [] (by decide +kernel) rfl (pc' := 38) (ls' := [some (.ref 72), some (.int S), some (.int (psum (whF M S 39) i)), some (.int (nI i))]) (st' := [.int (psum (whF M S 39) i)]) (M' := M) rfl ⟨trivial, trivial⟩ ?_
      have e : i = 5 := by omega
      subst e
      exact g_ireturn (by decide +kernel) rfl rfl ⟨rfl, rfl⟩
    · have nc1 : i < 5 := by
        have z : ¬ nI 5 ≤ nI i := by simpa only [nI_add, pk_mul, nI_s1, n0_lit] using c1
        rw [nI_leI (by omega) (by omega)] at z
        omega
      refine blk 7 [(.iload_n 2, 0, 0, 0), (.aload_n 0, 0, 0, 0), (.iload_n 1, 0, 0, 0), (.iload_n 3, 0, 0, 0)] [] (by decide +kernel) rfl (pc' := 13) (ls' := [some (.ref 72), some (.int S), some (.int (psum (whF M S 39) i)), some (.int (nI i))]) (st' := [.int (nI i), .int S, .ref 72, .int (psum (whF M S 39) i)]) (M' := M) rfl ⟨trivial, trivial, trivial, trivial, trivial⟩ ?_
      refine g_callV (s_isIn M S i) ok_X7_weightOfSet_X7_isIn (by decide +kernel) rfl (c := 7) rfl (by decide) rfl (Nat.le_of_ble_eq_true rfl) (fun r M' h => ?_) rfl
      obtain ⟨hr, hM⟩ := h
      rw [hr, hM]
      show G _ 16 [some (.ref 72), some (.int S), some (.int (psum (whF M S 39) i)), some (.int (nI i))] [.int (hb S i), .int (psum (whF M S 39) i)] M _
      refine g_if_eq (off := 12) (tgt := 28) (by decide +kernel) (by decide) (fun c2 => ?_) (fun c2 => ?_)
      · refine blk 7 [(.iconst 0, 0, 0, (nI 0)), (.iadd, 0, 0, 0), (.istore_n 2, 0, 0, 0), (.iinc 3 1, 0, 0, (nI 1)), (.goto (-30), 4, 0, 0)] [] (by decide +kernel) rfl (pc' := 4) (ls' := [some (.ref 72), some (.int S), some (.int ((psum (whF M S 39) i) + (nI 0))), some (.int (nI i + nI 1))]) (st' := []) (M' := M) rfl ⟨trivial, trivial, trivial, trivial, trivial, trivial⟩ ?_
        have e : psum (whF M S 39) (i + 1) = (psum (whF M S 39) i) + (nI 0) := by
          rw [psum]; congr 1; simp only [whF]; rw [if_pos c2]; exact nI_0.symm
        refine G.sub (ls' := [some (.ref 72), some (.int S), some (.int (psum (whF M S 39) (i + 1))), some (.int (nI (i + 1)))]) ?_ ⟨rfl, rfl, congrArg (fun z => some (Value.int z)) e.symm, congrArg (fun z => some (Value.int z)) (by simp only [nI_add, nI_s1]), trivial⟩
        exact ih (d - 1) (by omega) (i + 1) (by omega) (by omega)
      · refine blk 7 [(.aload_n 0, 0, 0, 0), (.getfield 86, 7, 37, 0), (.iload_n 3, 0, 0, 0), (.iaload, 0, 0, 0), (.goto (4), 29, 0, 0), (.iadd, 0, 0, 0), (.istore_n 2, 0, 0, 0), (.iinc 3 1, 0, 0, (nI 1)), (.goto (-30), 4, 0, 0)] [i] (by decide +kernel) rfl (pc' := 4) (ls' := [some (.ref 72), some (.int S), some (.int ((psum (whF M S 39) i) + (M 39 i))), some (.int (nI i + nI 1))]) (st' := []) (M' := M) rfl ⟨trivial, rfl, trivial, ⟨rfl, (by show _ < 5; omega)⟩, trivial, trivial, trivial, trivial, trivial, trivial⟩ ?_
        have e : psum (whF M S 39) (i + 1) = (psum (whF M S 39) i) + (M 39 i) := by
          rw [psum]; congr 1; simp only [whF]; rw [if_neg c2]
        refine G.sub (ls' := [some (.ref 72), some (.int S), some (.int (psum (whF M S 39) (i + 1))), some (.int (nI (i + 1)))]) ?_ ⟨rfl, rfl, congrArg (fun z => some (Value.int z)) e.symm, congrArg (fun z => some (Value.int z)) (by simp only [nI_add, nI_s1]), trivial⟩
        exact ih (d - 1) (by omega) (i + 1) (by omega) (by omega)
theorem s_wos (M : Mem) (S : Int32) : Spec mX7_weightOfSet [.ref 72, .int S] M (Ret (psum (whF M S 39) 5) M) := by
  refine Spec.of (by decide) (by simp [Value.category]) (Nat.le_of_ble_eq_true rfl) ?_
  refine blk 7 [(.iconst 0, 0, 0, (nI 0)), (.istore_n 2, 0, 0, 0), (.iconst 0, 0, 0, (nI 0)), (.istore_n 3, 0, 0, 0)] [] (by decide +kernel) rfl (pc' := 4) (ls' := [some (.ref 72), some (.int S), some (.int (nI 0)), some (.int (nI 0))]) (st' := []) (M' := M) rfl ⟨trivial, trivial, trivial, trivial, trivial⟩ ?_
  exact l_wos _ 0 rfl (by omega)
/-- may a step be taken? -/
def canB (p q i j s : Nat) : Bool := if s = 0 then decide (i < p ∧ j < q) else if s = 1 then decide (i < p) else decide (j < q)
theorem s_can (M : Mem) {p q i j s : Nat} (hp : M 72 27 = nI p) (hq : M 72 28 = nI q) (hpl : p ≤ 60) (hql : q ≤ 60) (hi : i ≤ 60) (hj : j ≤ 60) (hs : s ≤ 2) : Spec mX7_canStep [.ref 72, .int (nI i), .int (nI j), .int (nI s)] M (Ret (bI (canB p q i j s)) M) := by
  refine Spec.of (by decide) (by simp [Value.category]) (Nat.le_of_ble_eq_true rfl) ?_
  refine blk 7 [(.iload_n 3, 0, 0, 0)] [] (by decide +kernel) rfl (pc' := 1) (ls' := [some (.ref 72), some (.int (nI i)), some (.int (nI j)), some (.int (nI s))]) (st' := [.int (nI s)]) (M' := M) rfl ⟨trivial, trivial⟩ ?_
  refine g_if_ne (off := 27) (tgt := 28) (by decide +kernel) (by decide) (fun c1 => ?_) (fun c1 => ?_)
  · have nc1 : s ≠ 0 := by
      have z : ¬ nI s = nI 0 := by simpa only [hp, hq, nI_add, pk_mul, nI_s1, n0_lit] using c1
      rw [nI_eq (by omega) (by omega)] at z
      omega
    refine blk 7 [(.iload_n 3, 0, 0, 0), (.iconst 1, 0, 0, (nI 1))] [] (by decide +kernel) rfl (pc' := 30) (ls' := [some (.ref 72), some (.int (nI i)), some (.int (nI j)), some (.int (nI s))]) (st' := [.int (nI 1), .int (nI s)]) (M' := M) rfl ⟨trivial, trivial, trivial⟩ ?_
    refine g_icmp_ne (off := 19) (tgt := 49) (by decide +kernel) (by decide) (fun c2 => ?_) (fun c2 => ?_)
    · have nc2 : s ≠ 1 := by
        have z : ¬ nI s = nI 1 := by simpa only [hp, hq, nI_add, pk_mul, nI_s1, n0_lit] using c2
        rw [nI_eq (by omega) (by omega)] at z
        omega
      refine blk 7 [(.iload_n 2, 0, 0, 0), (.aload_n 0, 0, 0, 0), (.getfield 127, 7, 28, 0)] [] (by decide +kernel) rfl (pc' := 54) (ls' := [some (.ref 72), some (.int (nI i)), some (.int (nI j)), some (.int (nI s))]) (st' := [.int (M 72 28), .int (nI j)]) (M' := M) rfl ⟨trivial, trivial, rfl, trivial⟩ ?_
      refine g_icmp_ge (off := 7) (tgt := 61) (by decide +kernel) (by decide) (fun c3 => ?_) (fun c3 => ?_)
      · have nc3 : q ≤ j := (nI_leI (by omega) (by omega)).mp (by simpa only [hp, hq, nI_add, pk_mul, nI_s1, n0_lit] using c3)
        refine blk 7 [(.iconst 0, 0, 0, (nI 0))] [] (by decide +kernel) rfl (pc' := 62) (ls' := [some (.ref 72), some (.int (nI i)), some (.int (nI j)), some (.int (nI s))]) (st' := [.int (nI 0)]) (M' := M) rfl ⟨trivial, trivial⟩ ?_
        refine g_ireturn (by decide +kernel) rfl (by decide) ⟨?_, rfl⟩
        rw [show canB p q i j s = false by unfold canB; grind]; rfl
      · have nc3 : j < q := by
          have z : ¬ nI q ≤ nI j := by simpa only [hp, hq, nI_add, pk_mul, nI_s1, n0_lit] using c3
          rw [nI_leI (by omega) (by omega)] at z
          omega
        refine blk 7 [(.iconst 1, 0, 0, (nI 1)), (.goto (4), 62, 0, 0)] [] (by decide +kernel) rfl (pc' := 62) (ls' := [some (.ref 72), some (.int (nI i)), some (.int (nI j)), some (.int (nI s))]) (st' := [.int (nI 1)]) (M' := M) rfl ⟨trivial, trivial, trivial⟩ ?_
        refine g_ireturn (by decide +kernel) rfl (by decide) ⟨?_, rfl⟩
        rw [show canB p q i j s = true by unfold canB; grind]; rfl
    · have nc2 : s = 1 := (nI_eq (by omega) (by omega)).mp (by simpa only [hp, hq, nI_add, pk_mul, nI_s1, n0_lit] using c2)
      refine blk 7 [(.iload_n 1, 0, 0, 0), (.aload_n 0, 0, 0, 0), (.getfield 121, 7, 27, 0)] [] (by decide +kernel) rfl (pc' := 38) (ls' := [some (.ref 72), some (.int (nI i)), some (.int (nI j)), some (.int (nI s))]) (st' := [.int (M 72 27), .int (nI i)]) (M' := M) rfl ⟨trivial, trivial, rfl, trivial⟩ ?_
      refine g_icmp_ge (off := 7) (tgt := 45) (by decide +kernel) (by decide) (fun c4 => ?_) (fun c4 => ?_)
      · have nc4 : p ≤ i := (nI_leI (by omega) (by omega)).mp (by simpa only [hp, hq, nI_add, pk_mul, nI_s1, n0_lit] using c4)
        refine blk 7 [(.iconst 0, 0, 0, (nI 0)), (.goto (16), 62, 0, 0)] [] (by decide +kernel) rfl (pc' := 62) (ls' := [some (.ref 72), some (.int (nI i)), some (.int (nI j)), some (.int (nI s))]) (st' := [.int (nI 0)]) (M' := M) rfl ⟨trivial, trivial, trivial⟩ ?_
        refine g_ireturn (by decide +kernel) rfl (by decide) ⟨?_, rfl⟩
        rw [show canB p q i j s = false by unfold canB; grind]; rfl
      · have nc4 : i < p := by
          have z : ¬ nI p ≤ nI i := by simpa only [hp, hq, nI_add, pk_mul, nI_s1, n0_lit] using c4
          rw [nI_leI (by omega) (by omega)] at z
          omega
        refine blk 7 [(.iconst 1, 0, 0, (nI 1)), (.goto (20), 62, 0, 0)] [] (by decide +kernel) rfl (pc' := 62) (ls' := [some (.ref 72), some (.int (nI i)), some (.int (nI j)), some (.int (nI s))]) (st' := [.int (nI 1)]) (M' := M) rfl ⟨trivial, trivial, trivial⟩ ?_
        refine g_ireturn (by decide +kernel) rfl (by decide) ⟨?_, rfl⟩
        rw [show canB p q i j s = true by unfold canB; grind]; rfl
  · have nc1 : s = 0 := (nI_eq (by omega) (by omega)).mp (by simpa only [hp, hq, nI_add, pk_mul, nI_s1, n0_lit] using c1)
    refine blk 7 [(.iload_n 1, 0, 0, 0), (.aload_n 0, 0, 0, 0), (.getfield 121, 7, 27, 0)] [] (by decide +kernel) rfl (pc' := 9) (ls' := [some (.ref 72), some (.int (nI i)), some (.int (nI j)), some (.int (nI s))]) (st' := [.int (M 72 27), .int (nI i)]) (M' := M) rfl ⟨trivial, trivial, rfl, trivial⟩ ?_
    refine g_icmp_ge (off := 15) (tgt := 24) (by decide +kernel) (by decide) (fun c5 => ?_) (fun c5 => ?_)
    · have nc5 : p ≤ i := (nI_leI (by omega) (by omega)).mp (by simpa only [hp, hq, nI_add, pk_mul, nI_s1, n0_lit] using c5)
      refine blk 7 [(.iconst 0, 0, 0, (nI 0)), (.goto (37), 62, 0, 0)] [] (by decide +kernel) rfl (pc' := 62) (ls' := [some (.ref 72), some (.int (nI i)), some (.int (nI j)), some (.int (nI s))]) (st' := [.int (nI 0)]) (M' := M) rfl ⟨trivial, trivial, trivial⟩ ?_
      refine g_ireturn (by decide +kernel) rfl (by decide) ⟨?_, rfl⟩
      rw [show canB p q i j s = false by unfold canB; grind]; rfl
    · have nc5 : i < p := by
        have z : ¬ nI p ≤ nI i := by simpa only [hp, hq, nI_add, pk_mul, nI_s1, n0_lit] using c5
        rw [nI_leI (by omega) (by omega)] at z
        omega
      refine blk 7 [(.iload_n 2, 0, 0, 0), (.aload_n 0, 0, 0, 0), (.getfield 127, 7, 28, 0)] [] (by decide +kernel) rfl (pc' := 17) (ls' := [some (.ref 72), some (.int (nI i)), some (.int (nI j)), some (.int (nI s))]) (st' := [.int (M 72 28), .int (nI j)]) (M' := M) rfl ⟨trivial, trivial, rfl, trivial⟩ ?_
      refine g_icmp_ge (off := 7) (tgt := 24) (by decide +kernel) (by decide) (fun c6 => ?_) (fun c6 => ?_)
      · have nc6 : q ≤ j := (nI_leI (by omega) (by omega)).mp (by simpa only [hp, hq, nI_add, pk_mul, nI_s1, n0_lit] using c6)
        refine blk 7 [(.iconst 0, 0, 0, (nI 0)), (.goto (37), 62, 0, 0)] [] (by decide +kernel) rfl (pc' := 62) (ls' := [some (.ref 72), some (.int (nI i)), some (.int (nI j)), some (.int (nI s))]) (st' := [.int (nI 0)]) (M' := M) rfl ⟨trivial, trivial, trivial⟩ ?_
        refine g_ireturn (by decide +kernel) rfl (by decide) ⟨?_, rfl⟩
        rw [show canB p q i j s = false by unfold canB; grind]; rfl
      · have nc6 : j < q := by
          have z : ¬ nI q ≤ nI j := by simpa only [hp, hq, nI_add, pk_mul, nI_s1, n0_lit] using c6
          rw [nI_leI (by omega) (by omega)] at z
          omega
        refine blk 7 [(.iconst 1, 0, 0, (nI 1)), (.goto (41), 62, 0, 0)] [] (by decide +kernel) rfl (pc' := 62) (ls' := [some (.ref 72), some (.int (nI i)), some (.int (nI j)), some (.int (nI s))]) (st' := [.int (nI 1)]) (M' := M) rfl ⟨trivial, trivial, trivial⟩ ?_
        refine g_ireturn (by decide +kernel) rfl (by decide) ⟨?_, rfl⟩
        rw [show canB p q i j s = true by unfold canB; grind]; rfl
/-- what a step is worth with all behind it -/
def swF (M : Mem) (i j l s : Nat) (pA qA : Int32) : Int32 := if s = 0 then M 93 (60 * i + j) + M 40 (3 * (61 * (i + 1) + (j + 1)) + 0) else if s = 1 then M 40 (3 * (61 * (i + 1) + j) + 1) - (if s = l then nI 0 else M 72 6 * pA * qA) - M 72 7 * M 94 i * qA else M 40 (3 * (61 * i + (j + 1)) + 2) - (if s = l then nI 0 else M 72 6 * pA * qA) - M 72 7 * M 95 j * pA
theorem s_sw (M : Mem) {p q i j l s : Nat} (pA qA : Int32) (hpl : p ≤ 60) (hql : q ≤ 60) (hi : i ≤ p) (hj : j ≤ q) (hl : l ≤ 2) (hs : s ≤ 2) (hc : canB p q i j s = true) : Spec mX7_stepWorth [.ref 72, .int (nI i), .int (nI j), .int (nI l), .int (nI s), .int pA, .int qA] M (Ret (swF M i j l s pA qA) M) := by
  have hc2 : (s = 0 → i < p ∧ j < q) ∧ (s = 1 → i < p) ∧ (s = 2 → j < q) := by unfold canB at hc; grind
  refine Spec.of (by decide) (by simp [Value.category]) (Nat.le_of_ble_eq_true rfl) ?_
  refine blk 7 [(.iload 4, 0, 0, 0)] [] (by decide +kernel) rfl (pc' := 2) (ls' := [some (.ref 72), some (.int (nI i)), some (.int (nI j)), some (.int (nI l)), some (.int (nI s)), some (.int pA), some (.int qA), none]) (st' := [.int (nI s)]) (M' := M) rfl ⟨trivial, trivial⟩ ?_
  refine g_if_ne (off := 32) (tgt := 34) (by decide +kernel) (by decide) (fun c1 => ?_) (fun c1 => ?_)
  · have nc1 : s ≠ 0 := by
      have z : ¬ nI s = nI 0 := by simpa only [nI_add, pk_mul, nI_s1, n0_lit] using c1
      rw [nI_eq (by omega) (by omega)] at z
      omega
    refine blk 7 [(.iload 4, 0, 0, 0), (.iload_n 3, 0, 0, 0)] [] (by decide +kernel) rfl (pc' := 37) (ls' := [some (.ref 72), some (.int (nI i)), some (.int (nI j)), some (.int (nI l)), some (.int (nI s)), some (.int pA), some (.int qA), none]) (st' := [.int (nI l), .int (nI s)]) (M' := M) rfl ⟨trivial, trivial, trivial⟩ ?_
    refine g_icmp_ne (off := 7) (tgt := 44) (by decide +kernel) (by decide) (fun c2 => ?_) (fun c2 => ?_)
    · have nc2 : s ≠ l := by
        have z : ¬ nI s = nI l := by simpa only [nI_add, pk_mul, nI_s1, n0_lit] using c2
        rw [nI_eq (by omega) (by omega)] at z
        omega
      refine blk 7 [(.aload_n 0, 0, 0, 0), (.getfield 22, 7, 6, 0), (.iload 5, 0, 0, 0), (.imul, 0, 0, 0), (.iload 6, 0, 0, 0), (.imul, 0, 0, 0), (.istore 7, 0, 0, 0), (.iload 4, 0, 0, 0), (.iconst 1, 0, 0, (nI 1))] [] (by decide +kernel) rfl (pc' := 59) (ls' := [some (.ref 72), some (.int (nI i)), some (.int (nI j)), some (.int (nI l)), some (.int (nI s)), some (.int pA), some (.int qA), some (.int (((M 72 6) * pA) * qA))]) (st' := [.int (nI 1), .int (nI s)]) (M' := M) rfl ⟨trivial, rfl, trivial, trivial, trivial, trivial, trivial, trivial, trivial, trivial⟩ ?_
      refine g_icmp_ne (off := 36) (tgt := 95) (by decide +kernel) (by decide) (fun c3 => ?_) (fun c3 => ?_)
      · have nc3 : s ≠ 1 := by
          have z : ¬ nI s = nI 1 := by simpa only [nI_add, pk_mul, nI_s1, n0_lit] using c3
          rw [nI_eq (by omega) (by omega)] at z
          omega
        refine blk 7 [(.aload_n 0, 0, 0, 0), (.getfield 83, 7, 36, 0), (.aload_n 0, 0, 0, 0), (.iload_n 1, 0, 0, 0), (.iload_n 2, 0, 0, 0), (.iconst 1, 0, 0, (nI 1)), (.iadd, 0, 0, 0), (.iconst 2, 0, 0, (nI 2))] [] (by decide +kernel) rfl (pc' := 105) (ls' := [some (.ref 72), some (.int (nI i)), some (.int (nI j)), some (.int (nI l)), some (.int (nI s)), some (.int pA), some (.int qA), some (.int (((M 72 6) * pA) * qA))]) (st' := [.int (nI 2), .int ((nI j) + (nI 1)), .int (nI i), .ref 72, .ref 40]) (M' := M) rfl ⟨trivial, rfl, trivial, trivial, trivial, trivial, trivial, trivial, trivial⟩ ?_
        refine g_callV (s_entry M _ _ _) ok_X7_stepWorth_X7_entry (by decide +kernel) rfl (c := 7) rfl (by decide) rfl (Nat.le_of_ble_eq_true rfl) (fun r M' h => ?_) rfl
        obtain ⟨hr, hM⟩ := h
        rw [hr, hM]
        show G _ 108 [some (.ref 72), some (.int (nI i)), some (.int (nI j)), some (.int (nI l)), some (.int (nI s)), some (.int pA), some (.int qA), some (.int (((M 72 6) * pA) * qA))] [.int (nI 3 * (nI 61 * (nI i) + ((nI j) + (nI 1))) + (nI 2)), .ref 40] M _
        refine blk 7 [(.iaload, 0, 0, 0), (.iload 7, 0, 0, 0), (.isub, 0, 0, 0), (.aload_n 0, 0, 0, 0), (.getfield 26, 7, 7, 0), (.aload_n 0, 0, 0, 0), (.getfield 80, 7, 35, 0), (.iload_n 2, 0, 0, 0), (.iaload, 0, 0, 0), (.imul, 0, 0, 0), (.iload 5, 0, 0, 0), (.imul, 0, 0, 0), (.isub, 0, 0, 0)] [3 * (61 * i + (j + 1)) + 2, j] (by decide +kernel) rfl (pc' := 127) (ls' := [some (.ref 72), some (.int (nI i)), some (.int (nI j)), some (.int (nI l)), some (.int (nI s)), some (.int pA), some (.int qA), some (.int (((M 72 6) * pA) * qA))]) (st' := [.int (((M 40 (3 * (61 * i + (j + 1)) + 2)) - (((M 72 6) * pA) * qA)) - (((M 72 7) * (M 95 j)) * pA))]) (M' := M) rfl ⟨⟨(by simp only [nI_add, pk_mul, nI_s1, Nat.reduceAdd, Nat.reduceMul]), (by show _ < 11163; omega)⟩, trivial, trivial, trivial, rfl, trivial, rfl, trivial, ⟨rfl, (by show _ < 60; omega)⟩, trivial, trivial, trivial, trivial, trivial⟩ ?_
        refine g_ireturn (by decide +kernel) rfl rfl ⟨?_, rfl⟩
        unfold swF; grind
      · have nc3 : s = 1 := (nI_eq (by omega) (by omega)).mp (by simpa only [nI_add, pk_mul, nI_s1, n0_lit] using c3)
        refine blk 7 [(.aload_n 0, 0, 0, 0), (.getfield 83, 7, 36, 0), (.aload_n 0, 0, 0, 0), (.iload_n 1, 0, 0, 0), (.iconst 1, 0, 0, (nI 1)), (.iadd, 0, 0, 0), (.iload_n 2, 0, 0, 0), (.iconst 1, 0, 0, (nI 1))] [] (by decide +kernel) rfl (pc' := 72) (ls' := [some (.ref 72), some (.int (nI i)), some (.int (nI j)), some (.int (nI l)), some (.int (nI s)), some (.int pA), some (.int qA), some (.int (((M 72 6) * pA) * qA))]) (st' := [.int (nI 1), .int (nI j), .int ((nI i) + (nI 1)), .ref 72, .ref 40]) (M' := M) rfl ⟨trivial, rfl, trivial, trivial, trivial, trivial, trivial, trivial, trivial⟩ ?_
        refine g_callV (s_entry M _ _ _) ok_X7_stepWorth_X7_entry (by decide +kernel) rfl (c := 7) rfl (by decide) rfl (Nat.le_of_ble_eq_true rfl) (fun r M' h => ?_) rfl
        obtain ⟨hr, hM⟩ := h
        rw [hr, hM]
        show G _ 75 [some (.ref 72), some (.int (nI i)), some (.int (nI j)), some (.int (nI l)), some (.int (nI s)), some (.int pA), some (.int qA), some (.int (((M 72 6) * pA) * qA))] [.int (nI 3 * (nI 61 * ((nI i) + (nI 1)) + (nI j)) + (nI 1)), .ref 40] M _
        refine blk 7 [(.iaload, 0, 0, 0), (.iload 7, 0, 0, 0), (.isub, 0, 0, 0), (.aload_n 0, 0, 0, 0), (.getfield 26, 7, 7, 0), (.aload_n 0, 0, 0, 0), (.getfield 77, 7, 34, 0), (.iload_n 1, 0, 0, 0), (.iaload, 0, 0, 0), (.imul, 0, 0, 0), (.iload 6, 0, 0, 0), (.imul, 0, 0, 0), (.isub, 0, 0, 0)] [3 * (61 * (i + 1) + j) + 1, i] (by decide +kernel) rfl (pc' := 94) (ls' := [some (.ref 72), some (.int (nI i)), some (.int (nI j)), some (.int (nI l)), some (.int (nI s)), some (.int pA), some (.int qA), some (.int (((M 72 6) * pA) * qA))]) (st' := [.int (((M 40 (3 * (61 * (i + 1) + j) + 1)) - (((M 72 6) * pA) * qA)) - (((M 72 7) * (M 94 i)) * qA))]) (M' := M) rfl ⟨⟨(by simp only [nI_add, pk_mul, nI_s1, Nat.reduceAdd, Nat.reduceMul]), (by show _ < 11163; omega)⟩, trivial, trivial, trivial, rfl, trivial, rfl, trivial, ⟨rfl, (by show _ < 60; omega)⟩, trivial, trivial, trivial, trivial, trivial⟩ ?_
        refine g_ireturn (by decide +kernel) rfl rfl ⟨?_, rfl⟩
        unfold swF; grind
    · have nc2 : s = l := (nI_eq (by omega) (by omega)).mp (by simpa only [nI_add, pk_mul, nI_s1, n0_lit] using c2)
      refine blk 7 [(.iconst 0, 0, 0, (nI 0)), (.goto (13), 54, 0, 0), (.istore 7, 0, 0, 0), (.iload 4, 0, 0, 0), (.iconst 1, 0, 0, (nI 1))] [] (by decide +kernel) rfl (pc' := 59) (ls' := [some (.ref 72), some (.int (nI i)), some (.int (nI j)), some (.int (nI l)), some (.int (nI s)), some (.int pA), some (.int qA), some (.int (nI 0))]) (st' := [.int (nI 1), .int (nI s)]) (M' := M) rfl ⟨trivial, trivial, trivial, trivial, trivial, trivial⟩ ?_
      refine g_icmp_ne (off := 36) (tgt := 95) (by decide +kernel) (by decide) (fun c4 => ?_) (fun c4 => ?_)
      · have nc4 : s ≠ 1 := by
          have z : ¬ nI s = nI 1 := by simpa only [nI_add, pk_mul, nI_s1, n0_lit] using c4
          rw [nI_eq (by omega) (by omega)] at z
          omega
        refine blk 7 [(.aload_n 0, 0, 0, 0), (.getfield 83, 7, 36, 0), (.aload_n 0, 0, 0, 0), (.iload_n 1, 0, 0, 0), (.iload_n 2, 0, 0, 0), (.iconst 1, 0, 0, (nI 1)), (.iadd, 0, 0, 0), (.iconst 2, 0, 0, (nI 2))] [] (by decide +kernel) rfl (pc' := 105) (ls' := [some (.ref 72), some (.int (nI i)), some (.int (nI j)), some (.int (nI l)), some (.int (nI s)), some (.int pA), some (.int qA), some (.int (nI 0))]) (st' := [.int (nI 2), .int ((nI j) + (nI 1)), .int (nI i), .ref 72, .ref 40]) (M' := M) rfl ⟨trivial, rfl, trivial, trivial, trivial, trivial, trivial, trivial, trivial⟩ ?_
        refine g_callV (s_entry M _ _ _) ok_X7_stepWorth_X7_entry (by decide +kernel) rfl (c := 7) rfl (by decide) rfl (Nat.le_of_ble_eq_true rfl) (fun r M' h => ?_) rfl
        obtain ⟨hr, hM⟩ := h
        rw [hr, hM]
        show G _ 108 [some (.ref 72), some (.int (nI i)), some (.int (nI j)), some (.int (nI l)), some (.int (nI s)), some (.int pA), some (.int qA), some (.int (nI 0))] [.int (nI 3 * (nI 61 * (nI i) + ((nI j) + (nI 1))) + (nI 2)), .ref 40] M _
        refine blk 7 [(.iaload, 0, 0, 0), (.iload 7, 0, 0, 0), (.isub, 0, 0, 0), (.aload_n 0, 0, 0, 0), (.getfield 26, 7, 7, 0), (.aload_n 0, 0, 0, 0), (.getfield 80, 7, 35, 0), (.iload_n 2, 0, 0, 0), (.iaload, 0, 0, 0), (.imul, 0, 0, 0), (.iload 5, 0, 0, 0), (.imul, 0, 0, 0), (.isub, 0, 0, 0)] [3 * (61 * i + (j + 1)) + 2, j] (by decide +kernel) rfl (pc' := 127) (ls' := [some (.ref 72), some (.int (nI i)), some (.int (nI j)), some (.int (nI l)), some (.int (nI s)), some (.int pA), some (.int qA), some (.int (nI 0))]) (st' := [.int (((M 40 (3 * (61 * i + (j + 1)) + 2)) - (nI 0)) - (((M 72 7) * (M 95 j)) * pA))]) (M' := M) rfl ⟨⟨(by simp only [nI_add, pk_mul, nI_s1, Nat.reduceAdd, Nat.reduceMul]), (by show _ < 11163; omega)⟩, trivial, trivial, trivial, rfl, trivial, rfl, trivial, ⟨rfl, (by show _ < 60; omega)⟩, trivial, trivial, trivial, trivial, trivial⟩ ?_
        refine g_ireturn (by decide +kernel) rfl rfl ⟨?_, rfl⟩
        unfold swF; grind
      · have nc4 : s = 1 := (nI_eq (by omega) (by omega)).mp (by simpa only [nI_add, pk_mul, nI_s1, n0_lit] using c4)
        refine blk 7 [(.aload_n 0, 0, 0, 0), (.getfield 83, 7, 36, 0), (.aload_n 0, 0, 0, 0), (.iload_n 1, 0, 0, 0), (.iconst 1, 0, 0, (nI 1)), (.iadd, 0, 0, 0), (.iload_n 2, 0, 0, 0), (.iconst 1, 0, 0, (nI 1))] [] (by decide +kernel) rfl (pc' := 72) (ls' := [some (.ref 72), some (.int (nI i)), some (.int (nI j)), some (.int (nI l)), some (.int (nI s)), some (.int pA), some (.int qA), some (.int (nI 0))]) (st' := [.int (nI 1), .int (nI j), .int ((nI i) + (nI 1)), .ref 72, .ref 40]) (M' := M) rfl ⟨trivial, rfl, trivial, trivial, trivial, trivial, trivial, trivial, trivial⟩ ?_
        refine g_callV (s_entry M _ _ _) ok_X7_stepWorth_X7_entry (by decide +kernel) rfl (c := 7) rfl (by decide) rfl (Nat.le_of_ble_eq_true rfl) (fun r M' h => ?_) rfl
        obtain ⟨hr, hM⟩ := h
        rw [hr, hM]
        show G _ 75 [some (.ref 72), some (.int (nI i)), some (.int (nI j)), some (.int (nI l)), some (.int (nI s)), some (.int pA), some (.int qA), some (.int (nI 0))] [.int (nI 3 * (nI 61 * ((nI i) + (nI 1)) + (nI j)) + (nI 1)), .ref 40] M _
        refine blk 7 [(.iaload, 0, 0, 0), (.iload 7, 0, 0, 0), (.isub, 0, 0, 0), (.aload_n 0, 0, 0, 0), (.getfield 26, 7, 7, 0), (.aload_n 0, 0, 0, 0), (.getfield 77, 7, 34, 0), (.iload_n 1, 0, 0, 0), (.iaload, 0, 0, 0), (.imul, 0, 0, 0), (.iload 6, 0, 0, 0), (.imul, 0, 0, 0), (.isub, 0, 0, 0)] [3 * (61 * (i + 1) + j) + 1, i] (by decide +kernel) rfl (pc' := 94) (ls' := [some (.ref 72), some (.int (nI i)), some (.int (nI j)), some (.int (nI l)), some (.int (nI s)), some (.int pA), some (.int qA), some (.int (nI 0))]) (st' := [.int (((M 40 (3 * (61 * (i + 1) + j) + 1)) - (nI 0)) - (((M 72 7) * (M 94 i)) * qA))]) (M' := M) rfl ⟨⟨(by simp only [nI_add, pk_mul, nI_s1, Nat.reduceAdd, Nat.reduceMul]), (by show _ < 11163; omega)⟩, trivial, trivial, trivial, rfl, trivial, rfl, trivial, ⟨rfl, (by show _ < 60; omega)⟩, trivial, trivial, trivial, trivial, trivial⟩ ?_
        refine g_ireturn (by decide +kernel) rfl rfl ⟨?_, rfl⟩
        unfold swF; grind
  · have nc1 : s = 0 := (nI_eq (by omega) (by omega)).mp (by simpa only [nI_add, pk_mul, nI_s1, n0_lit] using c1)
    refine blk 7 [(.aload_n 0, 0, 0, 0), (.getfield 74, 7, 33, 0), (.bipush 60, 0, 0, (nI 60)), (.iload_n 1, 0, 0, 0), (.imul, 0, 0, 0), (.iload_n 2, 0, 0, 0), (.iadd, 0, 0, 0), (.iaload, 0, 0, 0), (.aload_n 0, 0, 0, 0), (.getfield 83, 7, 36, 0), (.aload_n 0, 0, 0, 0), (.iload_n 1, 0, 0, 0), (.iconst 1, 0, 0, (nI 1)), (.iadd, 0, 0, 0), (.iload_n 2, 0, 0, 0), (.iconst 1, 0, 0, (nI 1)), (.iadd, 0, 0, 0), (.iconst 0, 0, 0, (nI 0))] [60 * i + j] (by decide +kernel) rfl (pc' := 28) (ls' := [some (.ref 72), some (.int (nI i)), some (.int (nI j)), some (.int (nI l)), some (.int (nI s)), some (.int pA), some (.int qA), none]) (st' := [.int (nI 0), .int ((nI j) + (nI 1)), .int ((nI i) + (nI 1)), .ref 72, .ref 40, .int (M 93 (60 * i + j))]) (M' := M) rfl ⟨trivial, rfl, trivial, trivial, trivial, trivial, trivial, ⟨(by simp only [nI_add, pk_mul, nI_s1, Nat.reduceAdd, Nat.reduceMul]), (by show _ < 3600; omega)⟩, trivial, rfl, trivial, trivial, trivial, trivial, trivial, trivial, trivial, trivial, trivial⟩ ?_
    refine g_callV (s_entry M _ _ _) ok_X7_stepWorth_X7_entry (by decide +kernel) rfl (c := 7) rfl (by decide) rfl (Nat.le_of_ble_eq_true rfl) (fun r M' h => ?_) rfl
    obtain ⟨hr, hM⟩ := h
    rw [hr, hM]
    show G _ 31 [some (.ref 72), some (.int (nI i)), some (.int (nI j)), some (.int (nI l)), some (.int (nI s)), some (.int pA), some (.int qA), none] [.int (nI 3 * (nI 61 * ((nI i) + (nI 1)) + ((nI j) + (nI 1))) + (nI 0)), .ref 40, .int (M 93 (60 * i + j))] M _
    refine blk 7 [(.iaload, 0, 0, 0), (.iadd, 0, 0, 0)] [3 * (61 * (i + 1) + (j + 1)) + 0] (by decide +kernel) rfl (pc' := 33) (ls' := [some (.ref 72), some (.int (nI i)), some (.int (nI j)), some (.int (nI l)), some (.int (nI s)), some (.int pA), some (.int qA), none]) (st' := [.int ((M 93 (60 * i + j)) + (M 40 (3 * (61 * (i + 1) + (j + 1)) + 0)))]) (M' := M) rfl ⟨⟨(by simp only [nI_add, pk_mul, nI_s1, Nat.reduceAdd, Nat.reduceMul]), (by show _ < 11163; omega)⟩, trivial, trivial⟩ ?_
    refine g_ireturn (by decide +kernel) rfl rfl ⟨?_, rfl⟩
    unfold swF; grind
