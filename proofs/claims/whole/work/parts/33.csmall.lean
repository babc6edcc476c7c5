/-! the class: small methods -/
theorem ltr_num {c : Int32} {x : Nat} (hx : x < 4) (h : ltr x = c) : numF c = nI x := by
  subst h
  rcases (show x = 0 ∨ x = 1 ∨ x = 2 ∨ x = 3 by omega) with rfl | rfl | rfl | rfl <;> decide +kernel
theorem ltr_no {c : Int32} (h : ∀ x, x < 4 → ¬ ltr x = c) : numF c = -1 := by
  unfold numF
  have h0 := h 0 (by decide)
  have h1 := h 1 (by decide)
  have h2 := h 2 (by decide)
  have h3 := h 3 (by decide)
  rw [if_neg (fun z => h0 (by rw [z]; decide +kernel)), if_neg (fun z => h1 (by rw [z]; decide +kernel)), if_neg (fun z => h2 (by rw [z]; decide +kernel)), if_neg (fun z => h3 (by rw [z]; decide +kernel))]
theorem l_letterOf {M : Mem} {c : Int32} : ∀ d x, d = 4 - x → x ≤ 4 → (∀ a, a < x → ¬ ltr a = c) → G mX6_letterOf 2 [some (.int c), some (.int (nI x))] [] M (Ret (numF c) M) := by
  intro d
  induction d using Nat.strongRecOn with
  | ind d ih =>
    intro x hd hx hn
    refine blk 6 [(.iload_n 1, 0, 0, 0), (.iconst 4, 0, 0, (nI 4))] [] (by decide +kernel) rfl (pc' := 4) (ls' := [some (.int c), some (.int (nI x))]) (st' := [.int (nI 4), .int (nI x)]) (M' := M) rfl ⟨trivial, trivial, trivial⟩ ?_
    refine g_icmp_ge (off := 20) (tgt := 24) (by decide +kernel) (by decide) (fun c1 => ?_) (fun c1 => ?_)
    · have nc1 : 4 ≤ x := (nI_leI (by omega) (by omega)).mp (by simpa only [nI_add, pk_mul, nI_s1, n0_lit] using c1)
      refine blk 6 [(.iconst (-1), 0, 0, (-1))] [] (by decide +kernel) rfl (pc' := 25) (ls' := [some (.int c), some (.int (nI x))]) (st' := [.int (-1)]) (M' := M) rfl ⟨trivial, trivial⟩ ?_
      exact g_ireturn (by decide +kernel) rfl rfl ⟨by rw [ltr_no (fun a ha => hn a (by omega))], rfl⟩
    · have nc1 : x < 4 := by
        have z : ¬ nI 4 ≤ nI x := by simpa only [nI_add, pk_mul, nI_s1, n0_lit] using c1
        rw [nI_leI (by omega) (by omega)] at z
        omega
      refine blk 6 [(.getstatic 155, 96, 0, 0), (.iload_n 1, 0, 0, 0), (.caload, 0, 0, 0), (.iload_n 0, 0, 0, 0)] [x] (by decide +kernel) rfl (pc' := 13) (ls' := [some (.int c), some (.int (nI x))]) (st' := [.int c, .int (ltr x)]) (M' := M) rfl ⟨trivial, trivial, ⟨rfl, (by omega), rfl⟩, trivial, trivial⟩ ?_
      refine g_icmp_ne (off := 5) (tgt := 18) (by decide +kernel) (by decide) (fun c2 => ?_) (fun c2 => ?_)
      · refine blk 6 [(.iinc 1 1, 0, 0, (nI 1)), (.goto (-19), 2, 0, 0)] [] (by decide +kernel) rfl (pc' := 2) (ls' := [some (.int c), some (.int (nI x + nI 1))]) (st' := []) (M' := M) rfl ⟨trivial, trivial, trivial⟩ ?_
        refine G.sub (ls' := [some (.int c), some (.int (nI (x + 1)))]) ?_ ⟨rfl, congrArg (fun z => some (Value.int z)) (by simp only [nI_add, nI_s1]), trivial⟩
        exact ih (d - 1) (by omega) (x + 1) (by omega) (by omega) (fun a ha => by rcases Nat.lt_or_ge a x with z | z; exact hn a z; rw [show a = x by omega]; exact c2)
      · refine blk 6 [(.iload_n 1, 0, 0, 0)] [] (by decide +kernel) rfl (pc' := 17) (ls' := [some (.int c), some (.int (nI x))]) (st' := [.int (nI x)]) (M' := M) rfl ⟨trivial, trivial⟩ ?_
        exact g_ireturn (by decide +kernel) rfl rfl ⟨by rw [ltr_num (by omega) c2], rfl⟩
theorem s_letterOf (M : Mem) (c : Int32) : Spec mX6_letterOf [.int c] M (Ret (numF c) M) := by
  refine Spec.of (by decide) (by simp [Value.category]) (Nat.le_of_ble_eq_true rfl) ?_
  refine blk 6 [(.iconst 0, 0, 0, (nI 0)), (.istore_n 1, 0, 0, 0)] [] (by decide +kernel) rfl (pc' := 2) (ls' := [some (.int c), some (.int (nI 0))]) (st' := []) (M' := M) rfl ⟨trivial, trivial, trivial⟩ ?_
  exact l_letterOf _ 0 rfl (by omega) (fun a h => absurd h (by omega))
def typeP (M : Mem) (w : Nat) (c : Int32) : Option Value → Mem → Prop := fun r N => if numF c = -1 ∨ 12 ≤ w then r = some (.int 0) ∧ N = M else r = some (.int 1) ∧ N = stm (stm M 76 w (numF c)) 71 1 (nI (w + 1))
theorem s_type (M : Mem) {w : Nat} (c : Int32) (hw : M 71 1 = nI w) (hw12 : w ≤ 12) : Spec mX6_type [.ref 0, .int c] M (typeP M w c) := by
  refine Spec.of (by decide) (by simp [Value.category]) (Nat.le_of_ble_eq_true rfl) ?_
  refine blk 6 [(.iload_n 1, 0, 0, 0)] [] (by decide +kernel) rfl (pc' := 1) (ls' := [some (.ref 0), some (.int c), none]) (st' := [.int c]) (M' := M) rfl ⟨trivial, trivial⟩ ?_
  refine g_callS (s_letterOf _ c) ok_X6_type_X6_letterOf (by decide +kernel) rfl (Nat.le_of_ble_eq_true rfl) (fun r M' h => ?_) rfl
  obtain ⟨hr, hM⟩ := h
  rw [hr, hM]
  show G _ 4 [some (.ref 0), some (.int c), none] [.int (numF c)] M _
  refine blk 6 [(.istore_n 2, 0, 0, 0), (.iload_n 2, 0, 0, 0), (.iconst (-1), 0, 0, (-1))] [] (by decide +kernel) rfl (pc' := 7) (ls' := [some (.ref 0), some (.int c), some (.int (numF c))]) (st' := [.int (-1), .int (numF c)]) (M' := M) rfl ⟨trivial, trivial, trivial, trivial⟩ ?_
  refine g_icmp_eq (off := 15) (tgt := 22) (by decide +kernel) (by decide) (fun c1 => ?_) (fun c1 => ?_)
  · refine blk 6 [(.iconst 0, 0, 0, (nI 0))] [] (by decide +kernel) rfl (pc' := 23) (ls' := [some (.ref 0), some (.int c), some (.int (numF c))]) (st' := [.int (nI 0)]) (M' := M) rfl ⟨trivial, trivial⟩ ?_
    refine g_ireturn (by decide +kernel) rfl (by decide +kernel) ?_
    unfold typeP; rw [if_pos (by first | exact Or.inl c1 | exact Or.inr (by omega))]; exact ⟨rfl, rfl⟩
  · refine blk 6 [(.aload_n 0, 0, 0, 0), (.getfield 18, 6, 1, 0), (.getfield 59, 2, 1, 0), (.bipush 12, 0, 0, (nI 12))] [] (by decide +kernel) rfl (pc' := 19) (ls' := [some (.ref 0), some (.int c), some (.int (numF c))]) (st' := [.int (nI 12), .int (M 71 1)]) (M' := M) rfl ⟨trivial, rfl, rfl, trivial, trivial⟩ ?_
    refine g_icmp_lt (off := 5) (tgt := 24) (by decide +kernel) (by decide) (fun c2 => ?_) (fun c2 => ?_)
    · have nc2 : w < 12 := (nI_ltI (by omega) (by omega)).mp (by simpa only [hw, nI_add, pk_mul, nI_s1, n0_lit] using c2)
      refine blk 6 [(.aload_n 0, 0, 0, 0), (.getfield 18, 6, 1, 0), (.getfield 63, 2, 0, 0), (.aload_n 0, 0, 0, 0), (.getfield 18, 6, 1, 0), (.getfield 59, 2, 1, 0), (.iload_n 2, 0, 0, 0), (.iastore, 0, 0, 0), (.aload_n 0, 0, 0, 0), (.getfield 18, 6, 1, 0), (.dup, 0, 0, 0), (.getfield 59, 2, 1, 0), (.iconst 1, 0, 0, (nI 1)), (.iadd, 0, 0, 0), (.putfield 59, 2, 1, 0), (.iconst 1, 0, 0, (nI 1))] [w] (by decide +kernel) rfl (pc' := 54) (ls' := [some (.ref 0), some (.int c), some (.int (numF c))]) (st' := [.int (nI 1)]) (M' := stm (stm M 76 w (numF c)) 71 1 ((M 71 1) + (nI 1))) rfl ⟨trivial, rfl, rfl, trivial, rfl, rfl, trivial, ⟨(by simp only [hw, nI_add, pk_mul, nI_s1, Nat.reduceAdd, Nat.reduceMul]), (by show _ < 12; omega), by decide⟩, trivial, rfl, rfl, rfl, trivial, trivial, rfl, trivial, trivial⟩ ?_
      refine g_ireturn (by decide +kernel) rfl (by decide +kernel) ?_
      unfold typeP; rw [if_neg (fun z => by rcases z with z | z; exact c1 z; omega), ← nI_add, ← hw]; exact ⟨rfl, rfl⟩
    · have nc2 : 12 ≤ w := by
        have z : ¬ nI w < nI 12 := by simpa only [hw, nI_add, pk_mul, nI_s1, n0_lit] using c2
        rw [nI_ltI (by omega) (by omega)] at z
        omega
      refine blk 6 [(.iconst 0, 0, 0, (nI 0))] [] (by decide +kernel) rfl (pc' := 23) (ls' := [some (.ref 0), some (.int c), some (.int (numF c))]) (st' := [.int (nI 0)]) (M' := M) rfl ⟨trivial, trivial⟩ ?_
      refine g_ireturn (by decide +kernel) rfl (by decide +kernel) ?_
      unfold typeP; rw [if_pos (by first | exact Or.inl c1 | exact Or.inr (by omega))]; exact ⟨rfl, rfl⟩
def shareF (a b : Int32) : Int32 := if nI 1 ≤ b then nI 1000 * a / b else nI 0
theorem s_share (M : Mem) (a b : Int32) : Spec mX6_share [.int a, .int b] M (Ret (shareF a b) M) := by
  refine Spec.of (by decide) (by simp [Value.category]) (Nat.le_of_ble_eq_true rfl) ?_
  refine blk 6 [(.iload_n 1, 0, 0, 0), (.iconst 1, 0, 0, (nI 1))] [] (by decide +kernel) rfl (pc' := 2) (ls' := [some (.int a), some (.int b)]) (st' := [.int (nI 1), .int b]) (M' := M) rfl ⟨trivial, trivial, trivial⟩ ?_
  refine g_icmp_ge (off := 7) (tgt := 9) (by decide +kernel) (by decide) (fun c1 => ?_) (fun c1 => ?_)
  · refine blk 6 [(.sipush 1000, 0, 0, (nI 1000)), (.iload_n 0, 0, 0, 0), (.imul, 0, 0, 0), (.iload_n 1, 0, 0, 0), (.idiv, 0, 0, 0)] [] (by decide +kernel) rfl (pc' := 16) (ls' := [some (.int a), some (.int b)]) (st' := [.int (((nI 1000) * a) / b)]) (M' := M) rfl ⟨trivial, trivial, trivial, trivial, (fun z => by rw [z] at c1; exact absurd c1 (by decide)), trivial⟩ ?_
    exact g_ireturn (by decide +kernel) rfl rfl ⟨by unfold shareF; simp [*], rfl⟩
  · refine blk 6 [(.iconst 0, 0, 0, (nI 0)), (.goto (10), 16, 0, 0)] [] (by decide +kernel) rfl (pc' := 16) (ls' := [some (.int a), some (.int b)]) (st' := [.int (nI 0)]) (M' := M) rfl ⟨trivial, trivial, trivial⟩ ?_
    exact g_ireturn (by decide +kernel) rfl rfl ⟨by unfold shareF; simp [*], rfl⟩
def wrdB (W i : Int32) : Bool := decide (¬ i < 0 ∧ ¬ W ≤ i)
theorem s_isWord (M : Mem) (i : Int32) : Spec mX6_isWord [.ref 0, .int i] M (Ret (bI (wrdB (M 0 7) i)) M) := by
  refine Spec.of (by decide) (by simp [Value.category]) (Nat.le_of_ble_eq_true rfl) ?_
  refine blk 6 [(.iload_n 1, 0, 0, 0)] [] (by decide +kernel) rfl (pc' := 1) (ls' := [some (.ref 0), some (.int i)]) (st' := [.int i]) (M' := M) rfl ⟨trivial, trivial⟩ ?_
  refine g_if_lt (off := 15) (tgt := 16) (by decide +kernel) (by decide) (fun c1 => ?_) (fun c1 => ?_)
  · refine blk 6 [(.iconst 0, 0, 0, (nI 0))] [] (by decide +kernel) rfl (pc' := 17) (ls' := [some (.ref 0), some (.int i)]) (st' := [.int (nI 0)]) (M' := M) rfl ⟨trivial, trivial⟩ ?_
    refine g_ireturn (by decide +kernel) rfl (by decide +kernel) ⟨?_, rfl⟩
    rw [show wrdB (M 0 7) i = false from decide_eq_false (fun z => by first | exact z.1 c1 | exact z.2 c2)]; rfl
  · refine blk 6 [(.iload_n 1, 0, 0, 0), (.aload_n 0, 0, 0, 0), (.getfield 67, 6, 7, 0)] [] (by decide +kernel) rfl (pc' := 9) (ls' := [some (.ref 0), some (.int i)]) (st' := [.int (M 0 7), .int i]) (M' := M) rfl ⟨trivial, trivial, rfl, trivial⟩ ?_
    refine g_icmp_ge (off := 7) (tgt := 16) (by decide +kernel) (by decide) (fun c2 => ?_) (fun c2 => ?_)
    · refine blk 6 [(.iconst 0, 0, 0, (nI 0))] [] (by decide +kernel) rfl (pc' := 17) (ls' := [some (.ref 0), some (.int i)]) (st' := [.int (nI 0)]) (M' := M) rfl ⟨trivial, trivial⟩ ?_
      refine g_ireturn (by decide +kernel) rfl (by decide +kernel) ⟨?_, rfl⟩
      rw [show wrdB (M 0 7) i = false from decide_eq_false (fun z => by first | exact z.1 c1 | exact z.2 c2)]; rfl
    · refine blk 6 [(.iconst 1, 0, 0, (nI 1)), (.goto (4), 17, 0, 0)] [] (by decide +kernel) rfl (pc' := 17) (ls' := [some (.ref 0), some (.int i)]) (st' := [.int (nI 1)]) (M' := M) rfl ⟨trivial, trivial, trivial⟩ ?_
      refine g_ireturn (by decide +kernel) rfl (by decide +kernel) ⟨?_, rfl⟩
      rw [show wrdB (M 0 7) i = true from decide_eq_true ⟨c1, c2⟩]; rfl
theorem s_areTwoWords (M : Mem) (i j : Int32) : Spec mX6_areTwoWords [.ref 0, .int i, .int j] M (Ret (bI (twoB (M 0 7) i j)) M) := by
  refine Spec.of (by decide) (by simp [Value.category]) (Nat.le_of_ble_eq_true rfl) ?_
  refine blk 6 [(.aload_n 0, 0, 0, 0), (.iload_n 1, 0, 0, 0)] [] (by decide +kernel) rfl (pc' := 2) (ls' := [some (.ref 0), some (.int i), some (.int j)]) (st' := [.int i, .ref 0]) (M' := M) rfl ⟨trivial, trivial, trivial⟩ ?_
  refine g_callV (s_isWord _ i) ok_X6_areTwoWords_X6_isWord (by decide +kernel) rfl (c := 6) rfl (by decide) rfl (Nat.le_of_ble_eq_true rfl) (fun r M' h => ?_) rfl
  obtain ⟨hr, hM⟩ := h
  rw [hr, hM]
  show G _ 5 [some (.ref 0), some (.int i), some (.int j)] [.int (bI (wrdB (M 0 7) i))] M _
  refine g_if_eq (off := 20) (tgt := 25) (by decide +kernel) (by decide) (fun c1 => ?_) (fun c1 => ?_)
  · refine blk 6 [(.iconst 0, 0, 0, (nI 0))] [] (by decide +kernel) rfl (pc' := 26) (ls' := [some (.ref 0), some (.int i), some (.int j)]) (st' := [.int (nI 0)]) (M' := M) rfl ⟨trivial, trivial⟩ ?_
    refine g_ireturn (by decide +kernel) rfl (by decide +kernel) ⟨?_, rfl⟩
    rw [show twoB (M 0 7) i j = false from decide_eq_false (fun z => of_decide_eq_false (bI_eq c1) ⟨z.1, z.2.1⟩)]; rfl
  · refine blk 6 [(.aload_n 0, 0, 0, 0), (.iload_n 2, 0, 0, 0)] [] (by decide +kernel) rfl (pc' := 10) (ls' := [some (.ref 0), some (.int i), some (.int j)]) (st' := [.int j, .ref 0]) (M' := M) rfl ⟨trivial, trivial, trivial⟩ ?_
    refine g_callV (s_isWord _ j) ok_X6_areTwoWords_X6_isWord (by decide +kernel) rfl (c := 6) rfl (by decide) rfl (Nat.le_of_ble_eq_true rfl) (fun r M' h => ?_) rfl
    obtain ⟨hr, hM⟩ := h
    rw [hr, hM]
    show G _ 13 [some (.ref 0), some (.int i), some (.int j)] [.int (bI (wrdB (M 0 7) j))] M _
    refine g_if_eq (off := 12) (tgt := 25) (by decide +kernel) (by decide) (fun c2 => ?_) (fun c2 => ?_)
    · refine blk 6 [(.iconst 0, 0, 0, (nI 0))] [] (by decide +kernel) rfl (pc' := 26) (ls' := [some (.ref 0), some (.int i), some (.int j)]) (st' := [.int (nI 0)]) (M' := M) rfl ⟨trivial, trivial⟩ ?_
      refine g_ireturn (by decide +kernel) rfl (by decide +kernel) ⟨?_, rfl⟩
      rw [show twoB (M 0 7) i j = false from decide_eq_false (fun z => of_decide_eq_false (bI_eq c2) ⟨z.2.2.1, z.2.2.2.1⟩)]; rfl
    · refine blk 6 [(.iload_n 1, 0, 0, 0), (.iload_n 2, 0, 0, 0)] [] (by decide +kernel) rfl (pc' := 18) (ls' := [some (.ref 0), some (.int i), some (.int j)]) (st' := [.int j, .int i]) (M' := M) rfl ⟨trivial, trivial, trivial⟩ ?_
      refine g_icmp_eq (off := 7) (tgt := 25) (by decide +kernel) (by decide) (fun c3 => ?_) (fun c3 => ?_)
      · refine blk 6 [(.iconst 0, 0, 0, (nI 0))] [] (by decide +kernel) rfl (pc' := 26) (ls' := [some (.ref 0), some (.int i), some (.int j)]) (st' := [.int (nI 0)]) (M' := M) rfl ⟨trivial, trivial⟩ ?_
        refine g_ireturn (by decide +kernel) rfl (by decide +kernel) ⟨?_, rfl⟩
        rw [show twoB (M 0 7) i j = false from decide_eq_false (fun z => z.2.2.2.2 c3)]; rfl
      · refine blk 6 [(.iconst 1, 0, 0, (nI 1)), (.goto (4), 26, 0, 0)] [] (by decide +kernel) rfl (pc' := 26) (ls' := [some (.ref 0), some (.int i), some (.int j)]) (st' := [.int (nI 1)]) (M' := M) rfl ⟨trivial, trivial, trivial⟩ ?_
        refine g_ireturn (by decide +kernel) rfl (by decide +kernel) ⟨?_, rfl⟩
        have z1 := of_decide_eq_true (bI_ne c1); have z2 := of_decide_eq_true (bI_ne c2)
        rw [show twoB (M 0 7) i j = true from decide_eq_true ⟨z1.1, z1.2, z2.1, z2.2, c3⟩]; rfl
def cgapsP (M : Mem) (a b : Int32) : Option Value → Mem → Prop := fun r N => if ¬ a < 0 ∧ ¬ nI 20 < a ∧ ¬ b < 0 ∧ b ≤ nI 20 then r = some (.int 1) ∧ N = stm (stm (stm M 2 1 a) 2 2 b) 0 11 (nI 0) else r = some (.int 0) ∧ N = M
theorem s_gaps (M : Mem) (a b : Int32) : Spec mX6_gaps [.ref 0, .int a, .int b] M (cgapsP M a b) := by
  refine Spec.of (by decide) (by simp [Value.category]) (Nat.le_of_ble_eq_true rfl) ?_
  refine blk 6 [(.iload_n 1, 0, 0, 0)] [] (by decide +kernel) rfl (pc' := 1) (ls' := [some (.ref 0), some (.int a), some (.int b)]) (st' := [.int a]) (M' := M) rfl ⟨trivial, trivial⟩ ?_
  refine g_if_lt (off := 19) (tgt := 20) (by decide +kernel) (by decide) (fun c1 => ?_) (fun c1 => ?_)
  · refine blk 6 [(.iconst 0, 0, 0, (nI 0))] [] (by decide +kernel) rfl (pc' := 21) (ls' := [some (.ref 0), some (.int a), some (.int b)]) (st' := [.int (nI 0)]) (M' := M) rfl ⟨trivial, trivial⟩ ?_
    refine g_ireturn (by decide +kernel) rfl (by decide +kernel) ?_
    unfold cgapsP; rw [if_neg (fun z => by obtain ⟨z1, z2, z3, z4⟩ := z; first | exact z1 c1 | exact z2 c2 | exact z3 c3 | exact c4 z4)]; exact ⟨rfl, rfl⟩
  · refine blk 6 [(.iload_n 1, 0, 0, 0), (.bipush 20, 0, 0, (nI 20))] [] (by decide +kernel) rfl (pc' := 7) (ls' := [some (.ref 0), some (.int a), some (.int b)]) (st' := [.int (nI 20), .int a]) (M' := M) rfl ⟨trivial, trivial, trivial⟩ ?_
    refine g_icmp_gt (off := 13) (tgt := 20) (by decide +kernel) (by decide) (fun c2 => ?_) (fun c2 => ?_)
    · refine blk 6 [(.iconst 0, 0, 0, (nI 0))] [] (by decide +kernel) rfl (pc' := 21) (ls' := [some (.ref 0), some (.int a), some (.int b)]) (st' := [.int (nI 0)]) (M' := M) rfl ⟨trivial, trivial⟩ ?_
      refine g_ireturn (by decide +kernel) rfl (by decide +kernel) ?_
      unfold cgapsP; rw [if_neg (fun z => by obtain ⟨z1, z2, z3, z4⟩ := z; first | exact z1 c1 | exact z2 c2 | exact z3 c3 | exact c4 z4)]; exact ⟨rfl, rfl⟩
    · refine blk 6 [(.iload_n 2, 0, 0, 0)] [] (by decide +kernel) rfl (pc' := 11) (ls' := [some (.ref 0), some (.int a), some (.int b)]) (st' := [.int b]) (M' := M) rfl ⟨trivial, trivial⟩ ?_
      refine g_if_lt (off := 9) (tgt := 20) (by decide +kernel) (by decide) (fun c3 => ?_) (fun c3 => ?_)
      · refine blk 6 [(.iconst 0, 0, 0, (nI 0))] [] (by decide +kernel) rfl (pc' := 21) (ls' := [some (.ref 0), some (.int a), some (.int b)]) (st' := [.int (nI 0)]) (M' := M) rfl ⟨trivial, trivial⟩ ?_
        refine g_ireturn (by decide +kernel) rfl (by decide +kernel) ?_
        unfold cgapsP; rw [if_neg (fun z => by obtain ⟨z1, z2, z3, z4⟩ := z; first | exact z1 c1 | exact z2 c2 | exact z3 c3 | exact c4 z4)]; exact ⟨rfl, rfl⟩
      · refine blk 6 [(.iload_n 2, 0, 0, 0), (.bipush 20, 0, 0, (nI 20))] [] (by decide +kernel) rfl (pc' := 17) (ls' := [some (.ref 0), some (.int a), some (.int b)]) (st' := [.int (nI 20), .int b]) (M' := M) rfl ⟨trivial, trivial, trivial⟩ ?_
        refine g_icmp_le (off := 5) (tgt := 22) (by decide +kernel) (by decide) (fun c4 => ?_) (fun c4 => ?_)
        · refine blk 6 [(.aload_n 0, 0, 0, 0), (.getfield 25, 6, 2, 0), (.iload_n 1, 0, 0, 0), (.putfield 81, 0, 1, 0), (.aload_n 0, 0, 0, 0), (.getfield 25, 6, 2, 0), (.iload_n 2, 0, 0, 0), (.putfield 84, 0, 2, 0), (.aload_n 0, 0, 0, 0), (.iconst 0, 0, 0, (nI 0)), (.putfield 74, 6, 11, 0), (.iconst 1, 0, 0, (nI 1))] [] (by decide +kernel) rfl (pc' := 44) (ls' := [some (.ref 0), some (.int a), some (.int b)]) (st' := [.int (nI 1)]) (M' := stm (stm (stm M 2 1 a) 2 2 b) 0 11 (nI 0)) rfl ⟨trivial, rfl, trivial, rfl, trivial, rfl, trivial, rfl, trivial, trivial, ⟨rfl, Or.inl rfl⟩, trivial, trivial⟩ ?_
          refine g_ireturn (by decide +kernel) rfl (by decide +kernel) ?_
          unfold cgapsP; rw [if_pos ⟨c1, c2, c3, c4⟩]; exact ⟨rfl, rfl⟩
        · refine blk 6 [(.iconst 0, 0, 0, (nI 0))] [] (by decide +kernel) rfl (pc' := 21) (ls' := [some (.ref 0), some (.int a), some (.int b)]) (st' := [.int (nI 0)]) (M' := M) rfl ⟨trivial, trivial⟩ ?_
          refine g_ireturn (by decide +kernel) rfl (by decide +kernel) ?_
          unfold cgapsP; rw [if_neg (fun z => by obtain ⟨z1, z2, z3, z4⟩ := z; first | exact z1 c1 | exact z2 c2 | exact z3 c3 | exact c4 z4)]; exact ⟨rfl, rfl⟩
theorem s_settings (M : Mem) {a b c : Int32} (ha : a = 0 ∨ a = 1) (hb : b = 0 ∨ b = 1) (hc : c = 0 ∨ c = 1) : Spec mX6_settings [.ref 0, .int a, .int b, .int c] M (fun r N => r = none ∧ N = stm (stm (stm (stm M 0 8 a) 0 9 b) 0 10 c) 0 11 (nI 0)) := by
  refine Spec.of (by decide) (by simp [Value.category]) (Nat.le_of_ble_eq_true rfl) ?_
  refine blk 6 [(.aload_n 0, 0, 0, 0), (.iload_n 1, 0, 0, 0), (.putfield 87, 6, 8, 0), (.aload_n 0, 0, 0, 0), (.iload_n 2, 0, 0, 0), (.putfield 90, 6, 9, 0), (.aload_n 0, 0, 0, 0), (.iload_n 3, 0, 0, 0), (.putfield 93, 6, 10, 0), (.aload_n 0, 0, 0, 0), (.iconst 0, 0, 0, (nI 0)), (.putfield 74, 6, 11, 0)] [] (by decide +kernel) rfl (pc' := 20) (ls' := [some (.ref 0), some (.int a), some (.int b), some (.int c)]) (st' := []) (M' := stm (stm (stm (stm M 0 8 a) 0 9 b) 0 10 c) 0 11 (nI 0)) rfl ⟨trivial, trivial, ⟨rfl, (by assumption)⟩, trivial, trivial, ⟨rfl, (by assumption)⟩, trivial, trivial, ⟨rfl, (by assumption)⟩, trivial, trivial, ⟨rfl, Or.inl rfl⟩, trivial⟩ ?_
  exact g_return (by decide +kernel) rfl ⟨rfl, rfl⟩
theorem s_words (M : Mem) : Spec mX6_words [.ref 0] M (Ret (M 0 7) M) := by
  refine Spec.of (by decide) (by simp [Value.category]) (Nat.le_of_ble_eq_true rfl) ?_
  refine blk 6 [(.aload_n 0, 0, 0, 0), (.getfield 67, 6, 7, 0)] [] (by decide +kernel) rfl (pc' := 4) (ls' := [some (.ref 0)]) (st' := [.int (M 0 7)]) (M' := M) rfl ⟨trivial, rfl, trivial⟩ ?_
  exact g_ireturn (by decide +kernel) rfl rfl ⟨rfl, rfl⟩
theorem s_score1 (M : Mem) {x y : Nat} {v : Int32} (hx : x < 4) (hy : y < 4) (hv1 : ¬ v < -20) (hv2 : v ≤ nI 20) : Spec mX6_score [.ref 0, .int (nI x), .int (nI y), .int v] M (fun r N => r = some (.int 1) ∧ N = stm (stm (stm M 3 (x * 4 + y) v) 3 (y * 4 + x) v) 0 11 (nI 0)) := by
  refine Spec.of (by decide) (by simp [Value.category]) (Nat.le_of_ble_eq_true rfl) ?_
  refine blk 6 [(.iload_n 1, 0, 0, 0)] [] (by decide +kernel) rfl (pc' := 1) (ls' := [some (.ref 0), some (.int (nI x)), some (.int (nI y)), some (.int v)]) (st' := [.int (nI x)]) (M' := M) rfl ⟨trivial, trivial⟩ ?_
  refine g_if_lt (off := 17) (tgt := 18) (by decide +kernel) (by decide) (fun c1 => ?_) (fun c1 => ?_)
  · have nc1 : x < 0 := (nI_ltI (by omega) (by omega)).mp (by simpa only [nI_add, pk_mul, nI_s1, n0_lit] using c1)
    refine blk 6 [(.iconst 0, 0, 0, (nI 0))] [] (by decide +kernel) rfl (pc' := 19) (ls' := [some (.ref 0), some (.int (nI x)), some (.int (nI y)), some (.int v)]) (st' := [.int (nI 0)]) (M' := M) rfl ⟨trivial, trivial⟩ ?_
    exfalso
    first | omega | exact hv1 c5 | exact c6 hv2
  · have nc1 : 0 ≤ x := by
      have z : ¬ nI x < nI 0 := by simpa only [nI_add, pk_mul, nI_s1, n0_lit] using c1
      rw [nI_ltI (by omega) (by omega)] at z
      omega
    refine blk 6 [(.iload_n 1, 0, 0, 0), (.iconst 4, 0, 0, (nI 4))] [] (by decide +kernel) rfl (pc' := 6) (ls' := [some (.ref 0), some (.int (nI x)), some (.int (nI y)), some (.int v)]) (st' := [.int (nI 4), .int (nI x)]) (M' := M) rfl ⟨trivial, trivial, trivial⟩ ?_
    refine g_icmp_ge (off := 12) (tgt := 18) (by decide +kernel) (by decide) (fun c2 => ?_) (fun c2 => ?_)
    · have nc2 : 4 ≤ x := (nI_leI (by omega) (by omega)).mp (by simpa only [nI_add, pk_mul, nI_s1, n0_lit] using c2)
      refine blk 6 [(.iconst 0, 0, 0, (nI 0))] [] (by decide +kernel) rfl (pc' := 19) (ls' := [some (.ref 0), some (.int (nI x)), some (.int (nI y)), some (.int v)]) (st' := [.int (nI 0)]) (M' := M) rfl ⟨trivial, trivial⟩ ?_
      exfalso
      first | omega | exact hv1 c5 | exact c6 hv2
    · have nc2 : x < 4 := by
        have z : ¬ nI 4 ≤ nI x := by simpa only [nI_add, pk_mul, nI_s1, n0_lit] using c2
        rw [nI_leI (by omega) (by omega)] at z
        omega
      refine blk 6 [(.iload_n 2, 0, 0, 0)] [] (by decide +kernel) rfl (pc' := 10) (ls' := [some (.ref 0), some (.int (nI x)), some (.int (nI y)), some (.int v)]) (st' := [.int (nI y)]) (M' := M) rfl ⟨trivial, trivial⟩ ?_
      refine g_if_lt (off := 8) (tgt := 18) (by decide +kernel) (by decide) (fun c3 => ?_) (fun c3 => ?_)
      · have nc3 : y < 0 := (nI_ltI (by omega) (by omega)).mp (by simpa only [nI_add, pk_mul, nI_s1, n0_lit] using c3)
        refine blk 6 [(.iconst 0, 0, 0, (nI 0))] [] (by decide +kernel) rfl (pc' := 19) (ls' := [some (.ref 0), some (.int (nI x)), some (.int (nI y)), some (.int v)]) (st' := [.int (nI 0)]) (M' := M) rfl ⟨trivial, trivial⟩ ?_
        exfalso
        first | omega | exact hv1 c5 | exact c6 hv2
      · have nc3 : 0 ≤ y := by
          have z : ¬ nI y < nI 0 := by simpa only [nI_add, pk_mul, nI_s1, n0_lit] using c3
          rw [nI_ltI (by omega) (by omega)] at z
          omega
        refine blk 6 [(.iload_n 2, 0, 0, 0), (.iconst 4, 0, 0, (nI 4))] [] (by decide +kernel) rfl (pc' := 15) (ls' := [some (.ref 0), some (.int (nI x)), some (.int (nI y)), some (.int v)]) (st' := [.int (nI 4), .int (nI y)]) (M' := M) rfl ⟨trivial, trivial, trivial⟩ ?_
        refine g_icmp_lt (off := 5) (tgt := 20) (by decide +kernel) (by decide) (fun c4 => ?_) (fun c4 => ?_)
        · have nc4 : y < 4 := (nI_ltI (by omega) (by omega)).mp (by simpa only [nI_add, pk_mul, nI_s1, n0_lit] using c4)
          refine blk 6 [(.iload_n 3, 0, 0, 0), (.bipush (-20), 0, 0, (-20))] [] (by decide +kernel) rfl (pc' := 23) (ls' := [some (.ref 0), some (.int (nI x)), some (.int (nI y)), some (.int v)]) (st' := [.int (-20), .int v]) (M' := M) rfl ⟨trivial, trivial, trivial⟩ ?_
          refine g_icmp_lt (off := 9) (tgt := 32) (by decide +kernel) (by decide) (fun c5 => ?_) (fun c5 => ?_)
          · refine blk 6 [(.iconst 0, 0, 0, (nI 0))] [] (by decide +kernel) rfl (pc' := 33) (ls' := [some (.ref 0), some (.int (nI x)), some (.int (nI y)), some (.int v)]) (st' := [.int (nI 0)]) (M' := M) rfl ⟨trivial, trivial⟩ ?_
            exfalso
            first | omega | exact hv1 c5 | exact c6 hv2
          · refine blk 6 [(.iload_n 3, 0, 0, 0), (.bipush 20, 0, 0, (nI 20))] [] (by decide +kernel) rfl (pc' := 29) (ls' := [some (.ref 0), some (.int (nI x)), some (.int (nI y)), some (.int v)]) (st' := [.int (nI 20), .int v]) (M' := M) rfl ⟨trivial, trivial, trivial⟩ ?_
            refine g_icmp_le (off := 5) (tgt := 34) (by decide +kernel) (by decide) (fun c6 => ?_) (fun c6 => ?_)
            · refine blk 6 [(.aload_n 0, 0, 0, 0), (.getfield 25, 6, 2, 0), (.getfield 78, 0, 0, 0), (.iload_n 1, 0, 0, 0), (.iconst 4, 0, 0, (nI 4)), (.imul, 0, 0, 0), (.iload_n 2, 0, 0, 0), (.iadd, 0, 0, 0), (.iload_n 3, 0, 0, 0), (.iastore, 0, 0, 0), (.aload_n 0, 0, 0, 0), (.getfield 25, 6, 2, 0), (.getfield 78, 0, 0, 0), (.iload_n 2, 0, 0, 0), (.iconst 4, 0, 0, (nI 4)), (.imul, 0, 0, 0), (.iload_n 1, 0, 0, 0), (.iadd, 0, 0, 0), (.iload_n 3, 0, 0, 0), (.iastore, 0, 0, 0), (.aload_n 0, 0, 0, 0), (.iconst 0, 0, 0, (nI 0)), (.putfield 74, 6, 11, 0), (.iconst 1, 0, 0, (nI 1))] [x * 4 + y, y * 4 + x] (by decide +kernel) rfl (pc' := 68) (ls' := [some (.ref 0), some (.int (nI x)), some (.int (nI y)), some (.int v)]) (st' := [.int (nI 1)]) (M' := stm (stm (stm M 3 (x * 4 + y) v) 3 (y * 4 + x) v) 0 11 (nI 0)) rfl ⟨trivial, rfl, rfl, trivial, trivial, trivial, trivial, trivial, trivial, ⟨(by simp only [nI_add, pk_mul, nI_s1, Nat.reduceAdd, Nat.reduceMul]), (by show _ < 16; omega), by decide⟩, trivial, rfl, rfl, trivial, trivial, trivial, trivial, trivial, trivial, ⟨(by simp only [nI_add, pk_mul, nI_s1, Nat.reduceAdd, Nat.reduceMul]), (by show _ < 16; omega), by decide⟩, trivial, trivial, ⟨rfl, Or.inl rfl⟩, trivial, trivial⟩ ?_
              exact g_ireturn (by decide +kernel) rfl (by decide +kernel) ⟨rfl, rfl⟩
            · refine blk 6 [(.iconst 0, 0, 0, (nI 0))] [] (by decide +kernel) rfl (pc' := 33) (ls' := [some (.ref 0), some (.int (nI x)), some (.int (nI y)), some (.int v)]) (st' := [.int (nI 0)]) (M' := M) rfl ⟨trivial, trivial⟩ ?_
              exfalso
              first | omega | exact hv1 c5 | exact c6 hv2
        · have nc4 : 4 ≤ y := by
            have z : ¬ nI y < nI 4 := by simpa only [nI_add, pk_mul, nI_s1, n0_lit] using c4
            rw [nI_ltI (by omega) (by omega)] at z
            omega
          refine blk 6 [(.iconst 0, 0, 0, (nI 0))] [] (by decide +kernel) rfl (pc' := 19) (ls' := [some (.ref 0), some (.int (nI x)), some (.int (nI y)), some (.int v)]) (st' := [.int (nI 0)]) (M' := M) rfl ⟨trivial, trivial⟩ ?_
          exfalso
          first | omega | exact hv1 c5 | exact c6 hv2
theorem s_score0 (M : Mem) {x y v : Int32} (hno : ¬ (¬ x < 0 ∧ ¬ nI 4 ≤ x ∧ ¬ y < 0 ∧ y < nI 4 ∧ ¬ v < -20 ∧ v ≤ nI 20)) : Spec mX6_score [.ref 0, .int x, .int y, .int v] M (Ret 0 M) := by
  refine Spec.of (by decide) (by simp [Value.category]) (Nat.le_of_ble_eq_true rfl) ?_
  refine blk 6 [(.iload_n 1, 0, 0, 0)] [] (by decide +kernel) rfl (pc' := 1) (ls' := [some (.ref 0), some (.int x), some (.int y), some (.int v)]) (st' := [.int x]) (M' := M) rfl ⟨trivial, trivial⟩ ?_
  refine g_if_lt (off := 17) (tgt := 18) (by decide +kernel) (by decide) (fun c1 => ?_) (fun c1 => ?_)
  · refine blk 6 [(.iconst 0, 0, 0, (nI 0))] [] (by decide +kernel) rfl (pc' := 19) (ls' := [some (.ref 0), some (.int x), some (.int y), some (.int v)]) (st' := [.int (nI 0)]) (M' := M) rfl ⟨trivial, trivial⟩ ?_
    exact g_ireturn (by decide +kernel) rfl (by decide +kernel) ⟨rfl, rfl⟩
  · refine blk 6 [(.iload_n 1, 0, 0, 0), (.iconst 4, 0, 0, (nI 4))] [] (by decide +kernel) rfl (pc' := 6) (ls' := [some (.ref 0), some (.int x), some (.int y), some (.int v)]) (st' := [.int (nI 4), .int x]) (M' := M) rfl ⟨trivial, trivial, trivial⟩ ?_
    refine g_icmp_ge (off := 12) (tgt := 18) (by decide +kernel) (by decide) (fun c2 => ?_) (fun c2 => ?_)
    · refine blk 6 [(.iconst 0, 0, 0, (nI 0))] [] (by decide +kernel) rfl (pc' := 19) (ls' := [some (.ref 0), some (.int x), some (.int y), some (.int v)]) (st' := [.int (nI 0)]) (M' := M) rfl ⟨trivial, trivial⟩ ?_
      exact g_ireturn (by decide +kernel) rfl (by decide +kernel) ⟨rfl, rfl⟩
    · refine blk 6 [(.iload_n 2, 0, 0, 0)] [] (by decide +kernel) rfl (pc' := 10) (ls' := [some (.ref 0), some (.int x), some (.int y), some (.int v)]) (st' := [.int y]) (M' := M) rfl ⟨trivial, trivial⟩ ?_
      refine g_if_lt (off := 8) (tgt := 18) (by decide +kernel) (by decide) (fun c3 => ?_) (fun c3 => ?_)
      · refine blk 6 [(.iconst 0, 0, 0, (nI 0))] [] (by decide +kernel) rfl (pc' := 19) (ls' := [some (.ref 0), some (.int x), some (.int y), some (.int v)]) (st' := [.int (nI 0)]) (M' := M) rfl ⟨trivial, trivial⟩ ?_
        exact g_ireturn (by decide +kernel) rfl (by decide +kernel) ⟨rfl, rfl⟩
      · refine blk 6 [(.iload_n 2, 0, 0, 0), (.iconst 4, 0, 0, (nI 4))] [] (by decide +kernel) rfl (pc' := 15) (ls' := [some (.ref 0), some (.int x), some (.int y), some (.int v)]) (st' := [.int (nI 4), .int y]) (M' := M) rfl ⟨trivial, trivial, trivial⟩ ?_
        refine g_icmp_lt (off := 5) (tgt := 20) (by decide +kernel) (by decide) (fun c4 => ?_) (fun c4 => ?_)
        · refine blk 6 [(.iload_n 3, 0, 0, 0), (.bipush (-20), 0, 0, (-20))] [] (by decide +kernel) rfl (pc' := 23) (ls' := [some (.ref 0), some (.int x), some (.int y), some (.int v)]) (st' := [.int (-20), .int v]) (M' := M) rfl ⟨trivial, trivial, trivial⟩ ?_
          refine g_icmp_lt (off := 9) (tgt := 32) (by decide +kernel) (by decide) (fun c5 => ?_) (fun c5 => ?_)
          · refine blk 6 [(.iconst 0, 0, 0, (nI 0))] [] (by decide +kernel) rfl (pc' := 33) (ls' := [some (.ref 0), some (.int x), some (.int y), some (.int v)]) (st' := [.int (nI 0)]) (M' := M) rfl ⟨trivial, trivial⟩ ?_
            exact g_ireturn (by decide +kernel) rfl (by decide +kernel) ⟨rfl, rfl⟩
          · refine blk 6 [(.iload_n 3, 0, 0, 0), (.bipush 20, 0, 0, (nI 20))] [] (by decide +kernel) rfl (pc' := 29) (ls' := [some (.ref 0), some (.int x), some (.int y), some (.int v)]) (st' := [.int (nI 20), .int v]) (M' := M) rfl ⟨trivial, trivial, trivial⟩ ?_
            refine g_icmp_le (off := 5) (tgt := 34) (by decide +kernel) (by decide) (fun c6 => ?_) (fun c6 => ?_)
            · exact absurd ⟨c1, c2, c3, c4, c5, c6⟩ hno
            · refine blk 6 [(.iconst 0, 0, 0, (nI 0))] [] (by decide +kernel) rfl (pc' := 33) (ls' := [some (.ref 0), some (.int x), some (.int y), some (.int v)]) (st' := [.int (nI 0)]) (M' := M) rfl ⟨trivial, trivial⟩ ?_
              exact g_ireturn (by decide +kernel) rfl (by decide +kernel) ⟨rfl, rfl⟩
        · refine blk 6 [(.iconst 0, 0, 0, (nI 0))] [] (by decide +kernel) rfl (pc' := 19) (ls' := [some (.ref 0), some (.int x), some (.int y), some (.int v)]) (st' := [.int (nI 0)]) (M' := M) rfl ⟨trivial, trivial⟩ ?_
          exact g_ireturn (by decide +kernel) rfl (by decide +kernel) ⟨rfl, rfl⟩
