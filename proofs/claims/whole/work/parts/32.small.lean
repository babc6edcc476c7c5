/-! the reference: small methods -/
/-- the number of a letter -/
def numF (c : Int32) : Int32 := if c = nI 65 then nI 0 else if c = nI 67 then nI 1 else if c = nI 71 then nI 2 else if c = nI 84 then nI 3 else -1
def chrF (x : Int32) : Int32 := if x = 0 then nI 65 else if x = nI 1 then nI 67 else if x = nI 2 then nI 71 else if x = nI 3 then nI 84 else nI 45
theorem numF_ok (c : Int32) : (numF c = -1) ∨ ∃ a, a < 4 ∧ numF c = nI a := by
  unfold numF
  split
  · exact Or.inr ⟨0, by decide, rfl⟩
  · split
    · exact Or.inr ⟨1, by decide, rfl⟩
    · split
      · exact Or.inr ⟨2, by decide, rfl⟩
      · split
        · exact Or.inr ⟨3, by decide, rfl⟩
        · exact Or.inl rfl
theorem s_numberOf (M : Mem) (c : Int32) : Spec mX7_numberOf [.int c] M (Ret (numF c) M) := by
  refine Spec.of (by decide) (by simp [Value.category]) (Nat.le_of_ble_eq_true rfl) ?_
  refine blk 7 [(.iload_n 0, 0, 0, 0), (.bipush 65, 0, 0, (nI 65))] [] (by decide +kernel) rfl (pc' := 3) (ls' := [some (.int c)]) (st' := [.int (nI 65), .int c]) (M' := M) rfl ⟨trivial, trivial, trivial⟩ ?_
  refine g_icmp_ne (off := 7) (tgt := 10) (by decide +kernel) (by decide) (fun c1 => ?_) (fun c1 => ?_)
  · refine blk 7 [(.iload_n 0, 0, 0, 0), (.bipush 67, 0, 0, (nI 67))] [] (by decide +kernel) rfl (pc' := 13) (ls' := [some (.int c)]) (st' := [.int (nI 67), .int c]) (M' := M) rfl ⟨trivial, trivial, trivial⟩ ?_
    refine g_icmp_ne (off := 7) (tgt := 20) (by decide +kernel) (by decide) (fun c2 => ?_) (fun c2 => ?_)
    · refine blk 7 [(.iload_n 0, 0, 0, 0), (.bipush 71, 0, 0, (nI 71))] [] (by decide +kernel) rfl (pc' := 23) (ls' := [some (.int c)]) (st' := [.int (nI 71), .int c]) (M' := M) rfl ⟨trivial, trivial, trivial⟩ ?_
      refine g_icmp_ne (off := 7) (tgt := 30) (by decide +kernel) (by decide) (fun c3 => ?_) (fun c3 => ?_)
      · refine blk 7 [(.iload_n 0, 0, 0, 0), (.bipush 84, 0, 0, (nI 84))] [] (by decide +kernel) rfl (pc' := 33) (ls' := [some (.int c)]) (st' := [.int (nI 84), .int c]) (M' := M) rfl ⟨trivial, trivial, trivial⟩ ?_
        refine g_icmp_ne (off := 7) (tgt := 40) (by decide +kernel) (by decide) (fun c4 => ?_) (fun c4 => ?_)
        · refine blk 7 [(.iconst (-1), 0, 0, (-1))] [] (by decide +kernel) rfl (pc' := 41) (ls' := [some (.int c)]) (st' := [.int (-1)]) (M' := M) rfl ⟨trivial, trivial⟩ ?_
          exact g_ireturn (by decide +kernel) rfl rfl ⟨by unfold numF; grind, rfl⟩
        · refine blk 7 [(.iconst 3, 0, 0, (nI 3)), (.goto (4), 41, 0, 0)] [] (by decide +kernel) rfl (pc' := 41) (ls' := [some (.int c)]) (st' := [.int (nI 3)]) (M' := M) rfl ⟨trivial, trivial, trivial⟩ ?_
          exact g_ireturn (by decide +kernel) rfl rfl ⟨by unfold numF; grind, rfl⟩
      · refine blk 7 [(.iconst 2, 0, 0, (nI 2)), (.goto (14), 41, 0, 0)] [] (by decide +kernel) rfl (pc' := 41) (ls' := [some (.int c)]) (st' := [.int (nI 2)]) (M' := M) rfl ⟨trivial, trivial, trivial⟩ ?_
        exact g_ireturn (by decide +kernel) rfl rfl ⟨by unfold numF; grind, rfl⟩
    · refine blk 7 [(.iconst 1, 0, 0, (nI 1)), (.goto (24), 41, 0, 0)] [] (by decide +kernel) rfl (pc' := 41) (ls' := [some (.int c)]) (st' := [.int (nI 1)]) (M' := M) rfl ⟨trivial, trivial, trivial⟩ ?_
      exact g_ireturn (by decide +kernel) rfl rfl ⟨by unfold numF; grind, rfl⟩
  · refine blk 7 [(.iconst 0, 0, 0, (nI 0)), (.goto (34), 41, 0, 0)] [] (by decide +kernel) rfl (pc' := 41) (ls' := [some (.int c)]) (st' := [.int (nI 0)]) (M' := M) rfl ⟨trivial, trivial, trivial⟩ ?_
    exact g_ireturn (by decide +kernel) rfl rfl ⟨by unfold numF; grind, rfl⟩
theorem s_mletterOf (M : Mem) (x : Int32) : Spec mX7_letterOf [.int x] M (Ret (chrF x) M) := by
  refine Spec.of (by decide) (by simp [Value.category]) (Nat.le_of_ble_eq_true rfl) ?_
  refine blk 7 [(.iload_n 0, 0, 0, 0)] [] (by decide +kernel) rfl (pc' := 1) (ls' := [some (.int x)]) (st' := [.int x]) (M' := M) rfl ⟨trivial, trivial⟩ ?_
  refine g_if_ne (off := 8) (tgt := 9) (by decide +kernel) (by decide) (fun c1 => ?_) (fun c1 => ?_)
  · refine blk 7 [(.iload_n 0, 0, 0, 0), (.iconst 1, 0, 0, (nI 1))] [] (by decide +kernel) rfl (pc' := 11) (ls' := [some (.int x)]) (st' := [.int (nI 1), .int x]) (M' := M) rfl ⟨trivial, trivial, trivial⟩ ?_
    refine g_icmp_ne (off := 8) (tgt := 19) (by decide +kernel) (by decide) (fun c2 => ?_) (fun c2 => ?_)
    · refine blk 7 [(.iload_n 0, 0, 0, 0), (.iconst 2, 0, 0, (nI 2))] [] (by decide +kernel) rfl (pc' := 21) (ls' := [some (.int x)]) (st' := [.int (nI 2), .int x]) (M' := M) rfl ⟨trivial, trivial, trivial⟩ ?_
      refine g_icmp_ne (off := 8) (tgt := 29) (by decide +kernel) (by decide) (fun c3 => ?_) (fun c3 => ?_)
      · refine blk 7 [(.iload_n 0, 0, 0, 0), (.iconst 3, 0, 0, (nI 3))] [] (by decide +kernel) rfl (pc' := 31) (ls' := [some (.int x)]) (st' := [.int (nI 3), .int x]) (M' := M) rfl ⟨trivial, trivial, trivial⟩ ?_
        refine g_icmp_ne (off := 8) (tgt := 39) (by decide +kernel) (by decide) (fun c4 => ?_) (fun c4 => ?_)
        · refine blk 7 [(.bipush 45, 0, 0, (nI 45))] [] (by decide +kernel) rfl (pc' := 41) (ls' := [some (.int x)]) (st' := [.int (nI 45)]) (M' := M) rfl ⟨trivial, trivial⟩ ?_
          exact g_ireturn (by decide +kernel) rfl (by decide +kernel) ⟨by unfold chrF; grind, rfl⟩
        · refine blk 7 [(.bipush 84, 0, 0, (nI 84)), (.goto (5), 41, 0, 0)] [] (by decide +kernel) rfl (pc' := 41) (ls' := [some (.int x)]) (st' := [.int (nI 84)]) (M' := M) rfl ⟨trivial, trivial, trivial⟩ ?_
          exact g_ireturn (by decide +kernel) rfl (by decide +kernel) ⟨by unfold chrF; grind, rfl⟩
      · refine blk 7 [(.bipush 71, 0, 0, (nI 71)), (.goto (15), 41, 0, 0)] [] (by decide +kernel) rfl (pc' := 41) (ls' := [some (.int x)]) (st' := [.int (nI 71)]) (M' := M) rfl ⟨trivial, trivial, trivial⟩ ?_
        exact g_ireturn (by decide +kernel) rfl (by decide +kernel) ⟨by unfold chrF; grind, rfl⟩
    · refine blk 7 [(.bipush 67, 0, 0, (nI 67)), (.goto (25), 41, 0, 0)] [] (by decide +kernel) rfl (pc' := 41) (ls' := [some (.int x)]) (st' := [.int (nI 67)]) (M' := M) rfl ⟨trivial, trivial, trivial⟩ ?_
      exact g_ireturn (by decide +kernel) rfl (by decide +kernel) ⟨by unfold chrF; grind, rfl⟩
  · refine blk 7 [(.bipush 65, 0, 0, (nI 65)), (.goto (35), 41, 0, 0)] [] (by decide +kernel) rfl (pc' := 41) (ls' := [some (.int x)]) (st' := [.int (nI 65)]) (M' := M) rfl ⟨trivial, trivial, trivial⟩ ?_
    exact g_ireturn (by decide +kernel) rfl (by decide +kernel) ⟨by unfold chrF; grind, rfl⟩
def fgt (M : Mem) : Mem := stm (stm M 72 11 (nI 0)) 72 23 (nI 0)
theorem s_forget (M : Mem) : Spec mX7_forget [.ref 72] M (fun r N => r = none ∧ N = fgt M) := by
  refine Spec.of (by decide) (by simp [Value.category]) (Nat.le_of_ble_eq_true rfl) ?_
  refine blk 7 [(.aload_n 0, 0, 0, 0), (.iconst 0, 0, 0, (nI 0)), (.putfield 89, 7, 11, 0), (.aload_n 0, 0, 0, 0), (.iconst 0, 0, 0, (nI 0)), (.putfield 93, 7, 23, 0)] [] (by decide +kernel) rfl (pc' := 10) (ls' := [some (.ref 72)]) (st' := []) (M' := stm (stm M 72 11 (nI 0)) 72 23 (nI 0)) rfl ⟨trivial, trivial, ⟨rfl, Or.inl rfl⟩, trivial, trivial, rfl, trivial⟩ ?_
  exact g_return (by decide +kernel) rfl ⟨rfl, rfl⟩
theorem s_7_words (M : Mem) : Spec mX7_words [.ref 72] M (Ret (M 72 0) M) := by
  refine Spec.of (by decide) (by simp [Value.category]) (Nat.le_of_ble_eq_true rfl) ?_
  refine blk 7 [(.aload_n 0, 0, 0, 0), (.getfield 103, 7, 0, 0)] [] (by decide +kernel) rfl (pc' := 4) (ls' := [some (.ref 72)]) (st' := [.int (M 72 0)]) (M' := M) rfl ⟨trivial, rfl, trivial⟩ ?_
  exact g_ireturn (by decide +kernel) rfl rfl ⟨rfl, rfl⟩
theorem s_7_columns (M : Mem) : Spec mX7_columns [.ref 72] M (Ret (M 72 23) M) := by
  refine Spec.of (by decide) (by simp [Value.category]) (Nat.le_of_ble_eq_true rfl) ?_
  refine blk 7 [(.aload_n 0, 0, 0, 0), (.getfield 93, 7, 23, 0)] [] (by decide +kernel) rfl (pc' := 4) (ls' := [some (.ref 72)]) (st' := [.int (M 72 23)]) (M' := M) rfl ⟨trivial, rfl, trivial⟩ ?_
  exact g_ireturn (by decide +kernel) rfl rfl ⟨rfl, rfl⟩
def mtypeP (M : Mem) (w : Nat) (c : Int32) : Option Value → Mem → Prop := fun r N => if numF c < 0 ∨ w = 12 then r = some (.int 0) ∧ N = M else r = some (.int 1) ∧ N = stm (stm M 75 w (numF c)) 72 3 (nI (w + 1))
theorem s_mtype (M : Mem) {w : Nat} (c : Int32) (hw : M 72 3 = nI w) (hw12 : w ≤ 12) : Spec mX7_type [.ref 72, .int c] M (mtypeP M w c) := by
  refine Spec.of (by decide) (by simp [Value.category]) (Nat.le_of_ble_eq_true rfl) ?_
  refine blk 7 [(.iload_n 1, 0, 0, 0)] [] (by decide +kernel) rfl (pc' := 1) (ls' := [some (.ref 72), some (.int c)]) (st' := [.int c]) (M' := M) rfl ⟨trivial, trivial⟩ ?_
  refine g_callS (s_numberOf _ c) ok_X7_type_X7_numberOf (by decide +kernel) rfl (Nat.le_of_ble_eq_true rfl) (fun r M' h => ?_) rfl
  obtain ⟨hr, hM⟩ := h
  rw [hr, hM]
  show G _ 4 [some (.ref 72), some (.int c)] [.int (numF c)] M _
  refine g_if_lt (off := 12) (tgt := 16) (by decide +kernel) (by decide) (fun c1 => ?_) (fun c1 => ?_)
  · refine blk 7 [(.iconst 0, 0, 0, (nI 0))] [] (by decide +kernel) rfl (pc' := 17) (ls' := [some (.ref 72), some (.int c)]) (st' := [.int (nI 0)]) (M' := M) rfl ⟨trivial, trivial⟩ ?_
    refine g_ireturn (by decide +kernel) rfl (by decide +kernel) ?_
    unfold mtypeP; rw [if_pos (by first | exact Or.inl c1 | exact Or.inr (by omega))]; exact ⟨rfl, rfl⟩
  · refine blk 7 [(.aload_n 0, 0, 0, 0), (.getfield 100, 7, 3, 0), (.bipush 12, 0, 0, (nI 12))] [] (by decide +kernel) rfl (pc' := 13) (ls' := [some (.ref 72), some (.int c)]) (st' := [.int (nI 12), .int (M 72 3)]) (M' := M) rfl ⟨trivial, rfl, trivial, trivial⟩ ?_
    refine g_icmp_ne (off := 5) (tgt := 18) (by decide +kernel) (by decide) (fun c2 => ?_) (fun c2 => ?_)
    · have nc2 : w ≠ 12 := by
        have z : ¬ nI w = nI 12 := by simpa only [hw, nI_add, pk_mul, nI_s1, n0_lit] using c2
        rw [nI_eq (by omega) (by omega)] at z
        omega
      refine blk 7 [(.aload_n 0, 0, 0, 0), (.getfield 16, 7, 4, 0), (.aload_n 0, 0, 0, 0), (.getfield 100, 7, 3, 0), (.iload_n 1, 0, 0, 0)] [] (by decide +kernel) rfl (pc' := 27) (ls' := [some (.ref 72), some (.int c)]) (st' := [.int c, .int (M 72 3), .ref 75]) (M' := M) rfl ⟨trivial, rfl, trivial, rfl, trivial, trivial⟩ ?_
      refine g_callS (s_numberOf _ c) ok_X7_type_X7_numberOf (by decide +kernel) rfl (Nat.le_of_ble_eq_true rfl) (fun r M' h => ?_) rfl
      obtain ⟨hr, hM⟩ := h
      rw [hr, hM]
      show G _ 30 [some (.ref 72), some (.int c)] [.int (numF c), .int (M 72 3), .ref 75] M _
      refine blk 7 [(.iastore, 0, 0, 0), (.aload_n 0, 0, 0, 0), (.dup, 0, 0, 0), (.getfield 100, 7, 3, 0), (.iconst 1, 0, 0, (nI 1)), (.iadd, 0, 0, 0), (.putfield 100, 7, 3, 0), (.iconst 1, 0, 0, (nI 1))] [w] (by decide +kernel) rfl (pc' := 42) (ls' := [some (.ref 72), some (.int c)]) (st' := [.int (nI 1)]) (M' := stm (stm M 75 w (numF c)) 72 3 ((M 72 3) + (nI 1))) rfl ⟨⟨(by simp only [hw, nI_add, pk_mul, nI_s1, Nat.reduceAdd, Nat.reduceMul]), (by show _ < 12; omega), by decide⟩, trivial, rfl, rfl, trivial, trivial, rfl, trivial, trivial⟩ ?_
      refine g_ireturn (by decide +kernel) rfl (by decide +kernel) ?_
      unfold mtypeP; rw [if_neg (fun z => by rcases z with z | z; exact c1 z; omega), ← nI_add, ← hw]; exact ⟨rfl, rfl⟩
    · have nc2 : w = 12 := (nI_eq (by omega) (by omega)).mp (by simpa only [hw, nI_add, pk_mul, nI_s1, n0_lit] using c2)
      refine blk 7 [(.iconst 0, 0, 0, (nI 0))] [] (by decide +kernel) rfl (pc' := 17) (ls' := [some (.ref 72), some (.int c)]) (st' := [.int (nI 0)]) (M' := M) rfl ⟨trivial, trivial⟩ ?_
      refine g_ireturn (by decide +kernel) rfl (by decide +kernel) ?_
      unfold mtypeP; rw [if_pos (by first | exact Or.inl c1 | exact Or.inr (by omega))]; exact ⟨rfl, rfl⟩
def gapsP (M : Mem) (a b : Int32) : Option Value → Mem → Prop := fun r N => if ¬ a < 0 ∧ ¬ nI 20 < a ∧ ¬ b < 0 ∧ b ≤ nI 20 then r = some (.int 1) ∧ N = fgt (stm (stm M 72 6 a) 72 7 b) else r = some (.int 0) ∧ N = M
theorem s_mgaps (M : Mem) (a b : Int32) : Spec mX7_gaps [.ref 72, .int a, .int b] M (gapsP M a b) := by
  refine Spec.of (by decide) (by simp [Value.category]) (Nat.le_of_ble_eq_true rfl) ?_
  refine blk 7 [(.iload_n 1, 0, 0, 0)] [] (by decide +kernel) rfl (pc' := 1) (ls' := [some (.ref 72), some (.int a), some (.int b)]) (st' := [.int a]) (M' := M) rfl ⟨trivial, trivial⟩ ?_
  refine g_if_lt (off := 19) (tgt := 20) (by decide +kernel) (by decide) (fun c1 => ?_) (fun c1 => ?_)
  · refine blk 7 [(.iconst 0, 0, 0, (nI 0))] [] (by decide +kernel) rfl (pc' := 21) (ls' := [some (.ref 72), some (.int a), some (.int b)]) (st' := [.int (nI 0)]) (M' := M) rfl ⟨trivial, trivial⟩ ?_
    refine g_ireturn (by decide +kernel) rfl (by decide +kernel) ?_
    unfold gapsP; rw [if_neg (fun z => by obtain ⟨z1, z2, z3, z4⟩ := z; first | exact z1 c1 | exact z2 c2 | exact z3 c3 | exact c4 z4)]; exact ⟨rfl, rfl⟩
  · refine blk 7 [(.iload_n 1, 0, 0, 0), (.bipush 20, 0, 0, (nI 20))] [] (by decide +kernel) rfl (pc' := 7) (ls' := [some (.ref 72), some (.int a), some (.int b)]) (st' := [.int (nI 20), .int a]) (M' := M) rfl ⟨trivial, trivial, trivial⟩ ?_
    refine g_icmp_gt (off := 13) (tgt := 20) (by decide +kernel) (by decide) (fun c2 => ?_) (fun c2 => ?_)
    · refine blk 7 [(.iconst 0, 0, 0, (nI 0))] [] (by decide +kernel) rfl (pc' := 21) (ls' := [some (.ref 72), some (.int a), some (.int b)]) (st' := [.int (nI 0)]) (M' := M) rfl ⟨trivial, trivial⟩ ?_
      refine g_ireturn (by decide +kernel) rfl (by decide +kernel) ?_
      unfold gapsP; rw [if_neg (fun z => by obtain ⟨z1, z2, z3, z4⟩ := z; first | exact z1 c1 | exact z2 c2 | exact z3 c3 | exact c4 z4)]; exact ⟨rfl, rfl⟩
    · refine blk 7 [(.iload_n 2, 0, 0, 0)] [] (by decide +kernel) rfl (pc' := 11) (ls' := [some (.ref 72), some (.int a), some (.int b)]) (st' := [.int b]) (M' := M) rfl ⟨trivial, trivial⟩ ?_
      refine g_if_lt (off := 9) (tgt := 20) (by decide +kernel) (by decide) (fun c3 => ?_) (fun c3 => ?_)
      · refine blk 7 [(.iconst 0, 0, 0, (nI 0))] [] (by decide +kernel) rfl (pc' := 21) (ls' := [some (.ref 72), some (.int a), some (.int b)]) (st' := [.int (nI 0)]) (M' := M) rfl ⟨trivial, trivial⟩ ?_
        refine g_ireturn (by decide +kernel) rfl (by decide +kernel) ?_
        unfold gapsP; rw [if_neg (fun z => by obtain ⟨z1, z2, z3, z4⟩ := z; first | exact z1 c1 | exact z2 c2 | exact z3 c3 | exact c4 z4)]; exact ⟨rfl, rfl⟩
      · refine blk 7 [(.iload_n 2, 0, 0, 0), (.bipush 20, 0, 0, (nI 20))] [] (by decide +kernel) rfl (pc' := 17) (ls' := [some (.ref 72), some (.int a), some (.int b)]) (st' := [.int (nI 20), .int b]) (M' := M) rfl ⟨trivial, trivial, trivial⟩ ?_
        refine g_icmp_le (off := 5) (tgt := 22) (by decide +kernel) (by decide) (fun c4 => ?_) (fun c4 => ?_)
        · refine blk 7 [(.aload_n 0, 0, 0, 0), (.iload_n 1, 0, 0, 0), (.putfield 22, 7, 6, 0), (.aload_n 0, 0, 0, 0), (.iload_n 2, 0, 0, 0), (.putfield 26, 7, 7, 0), (.aload_n 0, 0, 0, 0)] [] (by decide +kernel) rfl (pc' := 33) (ls' := [some (.ref 72), some (.int a), some (.int b)]) (st' := [.ref 72]) (M' := stm (stm M 72 6 a) 72 7 b) rfl ⟨trivial, trivial, rfl, trivial, trivial, rfl, trivial, trivial⟩ ?_
          refine g_callV (s_forget _) ok_X7_gaps_X7_forget (by decide +kernel) rfl (c := 7) rfl (by decide) rfl (Nat.le_of_ble_eq_true rfl) (fun r N h => ?_) rfl
          obtain ⟨hr, hN⟩ := h
          rw [hr]
          show G _ 36 [some (.ref 72), some (.int a), some (.int b)] [] N _
          refine blk 7 [(.iconst 1, 0, 0, (nI 1))] [] (by decide +kernel) rfl (pc' := 37) (ls' := [some (.ref 72), some (.int a), some (.int b)]) (st' := [.int (nI 1)]) (M' := N) rfl ⟨trivial, trivial⟩ ?_
          refine g_ireturn (by decide +kernel) rfl (by decide +kernel) ?_
          unfold gapsP; rw [if_pos ⟨c1, c2, c3, c4⟩]; exact ⟨rfl, hN⟩
        · refine blk 7 [(.iconst 0, 0, 0, (nI 0))] [] (by decide +kernel) rfl (pc' := 21) (ls' := [some (.ref 72), some (.int a), some (.int b)]) (st' := [.int (nI 0)]) (M' := M) rfl ⟨trivial, trivial⟩ ?_
          refine g_ireturn (by decide +kernel) rfl (by decide +kernel) ?_
          unfold gapsP; rw [if_neg (fun z => by obtain ⟨z1, z2, z3, z4⟩ := z; first | exact z1 c1 | exact z2 c2 | exact z3 c3 | exact c4 z4)]; exact ⟨rfl, rfl⟩
theorem s_msettings (M : Mem) {a b c : Int32} (ha : a = 0 ∨ a = 1) (hb : b = 0 ∨ b = 1) (hc : c = 0 ∨ c = 1) : Spec mX7_settings [.ref 72, .int a, .int b, .int c] M (fun r N => r = none ∧ N = fgt (stm (stm (stm M 72 8 a) 72 9 b) 72 10 c)) := by
  refine Spec.of (by decide) (by simp [Value.category]) (Nat.le_of_ble_eq_true rfl) ?_
  refine blk 7 [(.aload_n 0, 0, 0, 0), (.iload_n 1, 0, 0, 0), (.putfield 109, 7, 8, 0), (.aload_n 0, 0, 0, 0), (.iload_n 2, 0, 0, 0), (.putfield 112, 7, 9, 0), (.aload_n 0, 0, 0, 0), (.iload_n 3, 0, 0, 0), (.putfield 115, 7, 10, 0), (.aload_n 0, 0, 0, 0)] [] (by decide +kernel) rfl (pc' := 16) (ls' := [some (.ref 72), some (.int a), some (.int b), some (.int c)]) (st' := [.ref 72]) (M' := stm (stm (stm M 72 8 a) 72 9 b) 72 10 c) rfl ⟨trivial, trivial, ⟨rfl, (by assumption)⟩, trivial, trivial, ⟨rfl, (by assumption)⟩, trivial, trivial, ⟨rfl, (by assumption)⟩, trivial, trivial⟩ ?_
  refine g_callV (s_forget _) ok_X7_settings_X7_forget (by decide +kernel) rfl (c := 7) rfl (by decide) rfl (Nat.le_of_ble_eq_true rfl) (fun r N h => ?_) rfl
  obtain ⟨hr, hN⟩ := h
  rw [hr]
  show G _ 19 [some (.ref 72), some (.int a), some (.int b), some (.int c)] [] N _
  exact g_return (by decide +kernel) rfl ⟨rfl, hN⟩
theorem s_mscore1 (M : Mem) {x y : Nat} {v : Int32} (hx : x < 4) (hy : y < 4) (hv1 : ¬ v < -20) (hv2 : v ≤ nI 20) : Spec mX7_score [.ref 72, .int (nI x), .int (nI y), .int v] M (fun r N => r = some (.int 1) ∧ N = fgt (stm (stm M 77 (4 * x + y) v) 77 (4 * y + x) v)) := by
  refine Spec.of (by decide) (by simp [Value.category]) (Nat.le_of_ble_eq_true rfl) ?_
  refine blk 7 [(.iload_n 1, 0, 0, 0)] [] (by decide +kernel) rfl (pc' := 1) (ls' := [some (.ref 72), some (.int (nI x)), some (.int (nI y)), some (.int v)]) (st' := [.int (nI x)]) (M' := M) rfl ⟨trivial, trivial⟩ ?_
  refine g_if_lt (off := 29) (tgt := 30) (by decide +kernel) (by decide) (fun c1 => ?_) (fun c1 => ?_)
  · have nc1 : x < 0 := (nI_ltI (by omega) (by omega)).mp (by simpa only [nI_add, pk_mul, nI_s1, n0_lit] using c1)
    refine blk 7 [(.iconst 0, 0, 0, (nI 0))] [] (by decide +kernel) rfl (pc' := 31) (ls' := [some (.ref 72), some (.int (nI x)), some (.int (nI y)), some (.int v)]) (st' := [.int (nI 0)]) (M' := M) rfl ⟨trivial, trivial⟩ ?_
    exfalso
    first | omega | exact hv1 c5 | exact c6 hv2
  · have nc1 : 0 ≤ x := by
      have z : ¬ nI x < nI 0 := by simpa only [nI_add, pk_mul, nI_s1, n0_lit] using c1
      rw [nI_ltI (by omega) (by omega)] at z
      omega
    refine blk 7 [(.iload_n 1, 0, 0, 0), (.iconst 3, 0, 0, (nI 3))] [] (by decide +kernel) rfl (pc' := 6) (ls' := [some (.ref 72), some (.int (nI x)), some (.int (nI y)), some (.int v)]) (st' := [.int (nI 3), .int (nI x)]) (M' := M) rfl ⟨trivial, trivial, trivial⟩ ?_
    refine g_icmp_gt (off := 24) (tgt := 30) (by decide +kernel) (by decide) (fun c2 => ?_) (fun c2 => ?_)
    · have nc2 : 3 < x := (nI_ltI (by omega) (by omega)).mp (by simpa only [nI_add, pk_mul, nI_s1, n0_lit] using c2)
      refine blk 7 [(.iconst 0, 0, 0, (nI 0))] [] (by decide +kernel) rfl (pc' := 31) (ls' := [some (.ref 72), some (.int (nI x)), some (.int (nI y)), some (.int v)]) (st' := [.int (nI 0)]) (M' := M) rfl ⟨trivial, trivial⟩ ?_
      exfalso
      first | omega | exact hv1 c5 | exact c6 hv2
    · have nc2 : x ≤ 3 := by
        have z : ¬ nI 3 < nI x := by simpa only [nI_add, pk_mul, nI_s1, n0_lit] using c2
        rw [nI_ltI (by omega) (by omega)] at z
        omega
      refine blk 7 [(.iload_n 2, 0, 0, 0)] [] (by decide +kernel) rfl (pc' := 10) (ls' := [some (.ref 72), some (.int (nI x)), some (.int (nI y)), some (.int v)]) (st' := [.int (nI y)]) (M' := M) rfl ⟨trivial, trivial⟩ ?_
      refine g_if_lt (off := 20) (tgt := 30) (by decide +kernel) (by decide) (fun c3 => ?_) (fun c3 => ?_)
      · have nc3 : y < 0 := (nI_ltI (by omega) (by omega)).mp (by simpa only [nI_add, pk_mul, nI_s1, n0_lit] using c3)
        refine blk 7 [(.iconst 0, 0, 0, (nI 0))] [] (by decide +kernel) rfl (pc' := 31) (ls' := [some (.ref 72), some (.int (nI x)), some (.int (nI y)), some (.int v)]) (st' := [.int (nI 0)]) (M' := M) rfl ⟨trivial, trivial⟩ ?_
        exfalso
        first | omega | exact hv1 c5 | exact c6 hv2
      · have nc3 : 0 ≤ y := by
          have z : ¬ nI y < nI 0 := by simpa only [nI_add, pk_mul, nI_s1, n0_lit] using c3
          rw [nI_ltI (by omega) (by omega)] at z
          omega
        refine blk 7 [(.iload_n 2, 0, 0, 0), (.iconst 3, 0, 0, (nI 3))] [] (by decide +kernel) rfl (pc' := 15) (ls' := [some (.ref 72), some (.int (nI x)), some (.int (nI y)), some (.int v)]) (st' := [.int (nI 3), .int (nI y)]) (M' := M) rfl ⟨trivial, trivial, trivial⟩ ?_
        refine g_icmp_gt (off := 15) (tgt := 30) (by decide +kernel) (by decide) (fun c4 => ?_) (fun c4 => ?_)
        · have nc4 : 3 < y := (nI_ltI (by omega) (by omega)).mp (by simpa only [nI_add, pk_mul, nI_s1, n0_lit] using c4)
          refine blk 7 [(.iconst 0, 0, 0, (nI 0))] [] (by decide +kernel) rfl (pc' := 31) (ls' := [some (.ref 72), some (.int (nI x)), some (.int (nI y)), some (.int v)]) (st' := [.int (nI 0)]) (M' := M) rfl ⟨trivial, trivial⟩ ?_
          exfalso
          first | omega | exact hv1 c5 | exact c6 hv2
        · have nc4 : y ≤ 3 := by
            have z : ¬ nI 3 < nI y := by simpa only [nI_add, pk_mul, nI_s1, n0_lit] using c4
            rw [nI_ltI (by omega) (by omega)] at z
            omega
          refine blk 7 [(.iload_n 3, 0, 0, 0), (.bipush (-20), 0, 0, (-20))] [] (by decide +kernel) rfl (pc' := 21) (ls' := [some (.ref 72), some (.int (nI x)), some (.int (nI y)), some (.int v)]) (st' := [.int (-20), .int v]) (M' := M) rfl ⟨trivial, trivial, trivial⟩ ?_
          refine g_icmp_lt (off := 9) (tgt := 30) (by decide +kernel) (by decide) (fun c5 => ?_) (fun c5 => ?_)
          · refine blk 7 [(.iconst 0, 0, 0, (nI 0))] [] (by decide +kernel) rfl (pc' := 31) (ls' := [some (.ref 72), some (.int (nI x)), some (.int (nI y)), some (.int v)]) (st' := [.int (nI 0)]) (M' := M) rfl ⟨trivial, trivial⟩ ?_
            exfalso
            first | omega | exact hv1 c5 | exact c6 hv2
          · refine blk 7 [(.iload_n 3, 0, 0, 0), (.bipush 20, 0, 0, (nI 20))] [] (by decide +kernel) rfl (pc' := 27) (ls' := [some (.ref 72), some (.int (nI x)), some (.int (nI y)), some (.int v)]) (st' := [.int (nI 20), .int v]) (M' := M) rfl ⟨trivial, trivial, trivial⟩ ?_
            refine g_icmp_le (off := 5) (tgt := 32) (by decide +kernel) (by decide) (fun c6 => ?_) (fun c6 => ?_)
            · refine blk 7 [(.aload_n 0, 0, 0, 0), (.getfield 19, 7, 5, 0), (.iconst 4, 0, 0, (nI 4)), (.iload_n 1, 0, 0, 0), (.imul, 0, 0, 0), (.iload_n 2, 0, 0, 0), (.iadd, 0, 0, 0), (.iload_n 3, 0, 0, 0), (.iastore, 0, 0, 0), (.aload_n 0, 0, 0, 0), (.getfield 19, 7, 5, 0), (.iconst 4, 0, 0, (nI 4)), (.iload_n 2, 0, 0, 0), (.imul, 0, 0, 0), (.iload_n 1, 0, 0, 0), (.iadd, 0, 0, 0), (.iload_n 3, 0, 0, 0), (.iastore, 0, 0, 0), (.aload_n 0, 0, 0, 0)] [4 * x + y, 4 * y + x] (by decide +kernel) rfl (pc' := 55) (ls' := [some (.ref 72), some (.int (nI x)), some (.int (nI y)), some (.int v)]) (st' := [.ref 72]) (M' := stm (stm M 77 (4 * x + y) v) 77 (4 * y + x) v) rfl ⟨trivial, rfl, trivial, trivial, trivial, trivial, trivial, trivial, ⟨(by simp only [nI_add, pk_mul, nI_s1, Nat.reduceAdd, Nat.reduceMul]), (by show _ < 16; omega), by decide⟩, trivial, rfl, trivial, trivial, trivial, trivial, trivial, trivial, ⟨(by simp only [nI_add, pk_mul, nI_s1, Nat.reduceAdd, Nat.reduceMul]), (by show _ < 16; omega), by decide⟩, trivial, trivial⟩ ?_
              refine g_callV (s_forget _) ok_X7_score_X7_forget (by decide +kernel) rfl (c := 7) rfl (by decide) rfl (Nat.le_of_ble_eq_true rfl) (fun r N h => ?_) rfl
              obtain ⟨hr, hN⟩ := h
              rw [hr]
              show G _ 58 [some (.ref 72), some (.int (nI x)), some (.int (nI y)), some (.int v)] [] N _
              refine blk 7 [(.iconst 1, 0, 0, (nI 1))] [] (by decide +kernel) rfl (pc' := 59) (ls' := [some (.ref 72), some (.int (nI x)), some (.int (nI y)), some (.int v)]) (st' := [.int (nI 1)]) (M' := N) rfl ⟨trivial, trivial⟩ ?_
              exact g_ireturn (by decide +kernel) rfl (by decide +kernel) ⟨rfl, hN⟩
            · refine blk 7 [(.iconst 0, 0, 0, (nI 0))] [] (by decide +kernel) rfl (pc' := 31) (ls' := [some (.ref 72), some (.int (nI x)), some (.int (nI y)), some (.int v)]) (st' := [.int (nI 0)]) (M' := M) rfl ⟨trivial, trivial⟩ ?_
              exfalso
              first | omega | exact hv1 c5 | exact c6 hv2
theorem s_mscore0 (M : Mem) {x y v : Int32} (hno : ¬ (¬ x < 0 ∧ ¬ nI 3 < x ∧ ¬ y < 0 ∧ ¬ nI 3 < y ∧ ¬ v < -20 ∧ v ≤ nI 20)) : Spec mX7_score [.ref 72, .int x, .int y, .int v] M (Ret 0 M) := by
  refine Spec.of (by decide) (by simp [Value.category]) (Nat.le_of_ble_eq_true rfl) ?_
  refine blk 7 [(.iload_n 1, 0, 0, 0)] [] (by decide +kernel) rfl (pc' := 1) (ls' := [some (.ref 72), some (.int x), some (.int y), some (.int v)]) (st' := [.int x]) (M' := M) rfl ⟨trivial, trivial⟩ ?_
  refine g_if_lt (off := 29) (tgt := 30) (by decide +kernel) (by decide) (fun c1 => ?_) (fun c1 => ?_)
  · refine blk 7 [(.iconst 0, 0, 0, (nI 0))] [] (by decide +kernel) rfl (pc' := 31) (ls' := [some (.ref 72), some (.int x), some (.int y), some (.int v)]) (st' := [.int (nI 0)]) (M' := M) rfl ⟨trivial, trivial⟩ ?_
    exact g_ireturn (by decide +kernel) rfl (by decide +kernel) ⟨rfl, rfl⟩
  · refine blk 7 [(.iload_n 1, 0, 0, 0), (.iconst 3, 0, 0, (nI 3))] [] (by decide +kernel) rfl (pc' := 6) (ls' := [some (.ref 72), some (.int x), some (.int y), some (.int v)]) (st' := [.int (nI 3), .int x]) (M' := M) rfl ⟨trivial, trivial, trivial⟩ ?_
    refine g_icmp_gt (off := 24) (tgt := 30) (by decide +kernel) (by decide) (fun c2 => ?_) (fun c2 => ?_)
    · refine blk 7 [(.iconst 0, 0, 0, (nI 0))] [] (by decide +kernel) rfl (pc' := 31) (ls' := [some (.ref 72), some (.int x), some (.int y), some (.int v)]) (st' := [.int (nI 0)]) (M' := M) rfl ⟨trivial, trivial⟩ ?_
      exact g_ireturn (by decide +kernel) rfl (by decide +kernel) ⟨rfl, rfl⟩
    · refine blk 7 [(.iload_n 2, 0, 0, 0)] [] (by decide +kernel) rfl (pc' := 10) (ls' := [some (.ref 72), some (.int x), some (.int y), some (.int v)]) (st' := [.int y]) (M' := M) rfl ⟨trivial, trivial⟩ ?_
      refine g_if_lt (off := 20) (tgt := 30) (by decide +kernel) (by decide) (fun c3 => ?_) (fun c3 => ?_)
      · refine blk 7 [(.iconst 0, 0, 0, (nI 0))] [] (by decide +kernel) rfl (pc' := 31) (ls' := [some (.ref 72), some (.int x), some (.int y), some (.int v)]) (st' := [.int (nI 0)]) (M' := M) rfl ⟨trivial, trivial⟩ ?_
        exact g_ireturn (by decide +kernel) rfl (by decide +kernel) ⟨rfl, rfl⟩
      · refine blk 7 [(.iload_n 2, 0, 0, 0), (.iconst 3, 0, 0, (nI 3))] [] (by decide +kernel) rfl (pc' := 15) (ls' := [some (.ref 72), some (.int x), some (.int y), some (.int v)]) (st' := [.int (nI 3), .int y]) (M' := M) rfl ⟨trivial, trivial, trivial⟩ ?_
        refine g_icmp_gt (off := 15) (tgt := 30) (by decide +kernel) (by decide) (fun c4 => ?_) (fun c4 => ?_)
        · refine blk 7 [(.iconst 0, 0, 0, (nI 0))] [] (by decide +kernel) rfl (pc' := 31) (ls' := [some (.ref 72), some (.int x), some (.int y), some (.int v)]) (st' := [.int (nI 0)]) (M' := M) rfl ⟨trivial, trivial⟩ ?_
          exact g_ireturn (by decide +kernel) rfl (by decide +kernel) ⟨rfl, rfl⟩
        · refine blk 7 [(.iload_n 3, 0, 0, 0), (.bipush (-20), 0, 0, (-20))] [] (by decide +kernel) rfl (pc' := 21) (ls' := [some (.ref 72), some (.int x), some (.int y), some (.int v)]) (st' := [.int (-20), .int v]) (M' := M) rfl ⟨trivial, trivial, trivial⟩ ?_
          refine g_icmp_lt (off := 9) (tgt := 30) (by decide +kernel) (by decide) (fun c5 => ?_) (fun c5 => ?_)
          · refine blk 7 [(.iconst 0, 0, 0, (nI 0))] [] (by decide +kernel) rfl (pc' := 31) (ls' := [some (.ref 72), some (.int x), some (.int y), some (.int v)]) (st' := [.int (nI 0)]) (M' := M) rfl ⟨trivial, trivial⟩ ?_
            exact g_ireturn (by decide +kernel) rfl (by decide +kernel) ⟨rfl, rfl⟩
          · refine blk 7 [(.iload_n 3, 0, 0, 0), (.bipush 20, 0, 0, (nI 20))] [] (by decide +kernel) rfl (pc' := 27) (ls' := [some (.ref 72), some (.int x), some (.int y), some (.int v)]) (st' := [.int (nI 20), .int v]) (M' := M) rfl ⟨trivial, trivial, trivial⟩ ?_
            refine g_icmp_le (off := 5) (tgt := 32) (by decide +kernel) (by decide) (fun c6 => ?_) (fun c6 => ?_)
            · exact absurd ⟨c1, c2, c3, c4, c5, c6⟩ hno
            · refine blk 7 [(.iconst 0, 0, 0, (nI 0))] [] (by decide +kernel) rfl (pc' := 31) (ls' := [some (.ref 72), some (.int x), some (.int y), some (.int v)]) (st' := [.int (nI 0)]) (M' := M) rfl ⟨trivial, trivial⟩ ?_
              exact g_ireturn (by decide +kernel) rfl (by decide +kernel) ⟨rfl, rfl⟩
def twoB (W i j : Int32) : Bool := decide (¬ i < 0 ∧ ¬ W ≤ i ∧ ¬ j < 0 ∧ ¬ W ≤ j ∧ ¬ i = j)
theorem s_areTwo (M : Mem) (i j : Int32) : Spec mX7_areTwo [.ref 72, .int i, .int j] M (Ret (bI (twoB (M 72 0) i j)) M) := by
  refine Spec.of (by decide) (by simp [Value.category]) (Nat.le_of_ble_eq_true rfl) ?_
  refine blk 7 [(.iload_n 1, 0, 0, 0)] [] (by decide +kernel) rfl (pc' := 1) (ls' := [some (.ref 72), some (.int i), some (.int j)]) (st' := [.int i]) (M' := M) rfl ⟨trivial, trivial⟩ ?_
  refine g_if_lt (off := 32) (tgt := 33) (by decide +kernel) (by decide) (fun c1 => ?_) (fun c1 => ?_)
  · refine blk 7 [(.iconst 0, 0, 0, (nI 0))] [] (by decide +kernel) rfl (pc' := 34) (ls' := [some (.ref 72), some (.int i), some (.int j)]) (st' := [.int (nI 0)]) (M' := M) rfl ⟨trivial, trivial⟩ ?_
    refine g_ireturn (by decide +kernel) rfl (by decide +kernel) ⟨?_, rfl⟩
    rw [show twoB (M 72 0) i j = false from decide_eq_false (fun z => by obtain ⟨z1, z2, z3, z4, z5⟩ := z; first | exact z1 c1 | exact z2 c2 | exact z3 c3 | exact z4 c4 | exact z5 c5)]; rfl
  · refine blk 7 [(.iload_n 1, 0, 0, 0), (.aload_n 0, 0, 0, 0), (.getfield 103, 7, 0, 0)] [] (by decide +kernel) rfl (pc' := 9) (ls' := [some (.ref 72), some (.int i), some (.int j)]) (st' := [.int (M 72 0), .int i]) (M' := M) rfl ⟨trivial, trivial, rfl, trivial⟩ ?_
    refine g_icmp_ge (off := 24) (tgt := 33) (by decide +kernel) (by decide) (fun c2 => ?_) (fun c2 => ?_)
    · refine blk 7 [(.iconst 0, 0, 0, (nI 0))] [] (by decide +kernel) rfl (pc' := 34) (ls' := [some (.ref 72), some (.int i), some (.int j)]) (st' := [.int (nI 0)]) (M' := M) rfl ⟨trivial, trivial⟩ ?_
      refine g_ireturn (by decide +kernel) rfl (by decide +kernel) ⟨?_, rfl⟩
      rw [show twoB (M 72 0) i j = false from decide_eq_false (fun z => by obtain ⟨z1, z2, z3, z4, z5⟩ := z; first | exact z1 c1 | exact z2 c2 | exact z3 c3 | exact z4 c4 | exact z5 c5)]; rfl
    · refine blk 7 [(.iload_n 2, 0, 0, 0)] [] (by decide +kernel) rfl (pc' := 13) (ls' := [some (.ref 72), some (.int i), some (.int j)]) (st' := [.int j]) (M' := M) rfl ⟨trivial, trivial⟩ ?_
      refine g_if_lt (off := 20) (tgt := 33) (by decide +kernel) (by decide) (fun c3 => ?_) (fun c3 => ?_)
      · refine blk 7 [(.iconst 0, 0, 0, (nI 0))] [] (by decide +kernel) rfl (pc' := 34) (ls' := [some (.ref 72), some (.int i), some (.int j)]) (st' := [.int (nI 0)]) (M' := M) rfl ⟨trivial, trivial⟩ ?_
        refine g_ireturn (by decide +kernel) rfl (by decide +kernel) ⟨?_, rfl⟩
        rw [show twoB (M 72 0) i j = false from decide_eq_false (fun z => by obtain ⟨z1, z2, z3, z4, z5⟩ := z; first | exact z1 c1 | exact z2 c2 | exact z3 c3 | exact z4 c4 | exact z5 c5)]; rfl
      · refine blk 7 [(.iload_n 2, 0, 0, 0), (.aload_n 0, 0, 0, 0), (.getfield 103, 7, 0, 0)] [] (by decide +kernel) rfl (pc' := 21) (ls' := [some (.ref 72), some (.int i), some (.int j)]) (st' := [.int (M 72 0), .int j]) (M' := M) rfl ⟨trivial, trivial, rfl, trivial⟩ ?_
        refine g_icmp_ge (off := 12) (tgt := 33) (by decide +kernel) (by decide) (fun c4 => ?_) (fun c4 => ?_)
        · refine blk 7 [(.iconst 0, 0, 0, (nI 0))] [] (by decide +kernel) rfl (pc' := 34) (ls' := [some (.ref 72), some (.int i), some (.int j)]) (st' := [.int (nI 0)]) (M' := M) rfl ⟨trivial, trivial⟩ ?_
          refine g_ireturn (by decide +kernel) rfl (by decide +kernel) ⟨?_, rfl⟩
          rw [show twoB (M 72 0) i j = false from decide_eq_false (fun z => by obtain ⟨z1, z2, z3, z4, z5⟩ := z; first | exact z1 c1 | exact z2 c2 | exact z3 c3 | exact z4 c4 | exact z5 c5)]; rfl
        · refine blk 7 [(.iload_n 1, 0, 0, 0), (.iload_n 2, 0, 0, 0)] [] (by decide +kernel) rfl (pc' := 26) (ls' := [some (.ref 72), some (.int i), some (.int j)]) (st' := [.int j, .int i]) (M' := M) rfl ⟨trivial, trivial, trivial⟩ ?_
          refine g_icmp_eq (off := 7) (tgt := 33) (by decide +kernel) (by decide) (fun c5 => ?_) (fun c5 => ?_)
          · refine blk 7 [(.iconst 0, 0, 0, (nI 0))] [] (by decide +kernel) rfl (pc' := 34) (ls' := [some (.ref 72), some (.int i), some (.int j)]) (st' := [.int (nI 0)]) (M' := M) rfl ⟨trivial, trivial⟩ ?_
            refine g_ireturn (by decide +kernel) rfl (by decide +kernel) ⟨?_, rfl⟩
            rw [show twoB (M 72 0) i j = false from decide_eq_false (fun z => by obtain ⟨z1, z2, z3, z4, z5⟩ := z; first | exact z1 c1 | exact z2 c2 | exact z3 c3 | exact z4 c4 | exact z5 c5)]; rfl
          · refine blk 7 [(.iconst 1, 0, 0, (nI 1)), (.goto (4), 34, 0, 0)] [] (by decide +kernel) rfl (pc' := 34) (ls' := [some (.ref 72), some (.int i), some (.int j)]) (st' := [.int (nI 1)]) (M' := M) rfl ⟨trivial, trivial, trivial⟩ ?_
            refine g_ireturn (by decide +kernel) rfl (by decide +kernel) ⟨?_, rfl⟩
            rw [show twoB (M 72 0) i j = true from decide_eq_true ( ⟨c1, c2, c3, c4, c5⟩)]; rfl
