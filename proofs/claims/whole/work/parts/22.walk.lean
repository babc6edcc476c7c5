/-! Merger.walk -/
/-- the step that is taken at i, j after a step l -/
def chM (M : Mem) (p q i j l : Nat) : Nat := chV (lkB M p q i j) (lkL M p q i j) (lkR M p q i j) (M 4 6) l
/-- where the walk is after n steps, and the last step -/
def wst (M : Mem) (p q : Nat) : Nat → Nat × Nat × Nat
  | 0 => (0, 0, 0)
  | n + 1 => ((wst M p q n).1 + (if chM M p q (wst M p q n).1 (wst M p q n).2.1 (wst M p q n).2.2 = 2 then 0 else 1), (wst M p q n).2.1 + (if chM M p q (wst M p q n).1 (wst M p q n).2.1 (wst M p q n).2.2 = 1 then 0 else 1), chM M p q (wst M p q n).1 (wst M p q n).2.1 (wst M p q n).2.2)
/-- no step is taken that cannot be -/
def chOK (M : Mem) (p q : Nat) : Prop := ∀ i j l, i ≤ p → j ≤ q → (i < p ∨ j < q) → l ≤ 2 → (chM M p q i j l = 0 → i < p ∧ j < q) ∧ (chM M p q i j l = 1 → i < p) ∧ (chM M p q i j l = 2 → j < q)
def walkP (M : Mem) (p q : Nat) : Option Value → Mem → Prop := fun r N => r = none ∧ ∃ n, n ≤ p + q ∧ (wst M p q n).1 = p ∧ (wst M p q n).2.1 = q ∧ (∀ k, k < n → ((wst M p q k).1 ≤ p ∧ (wst M p q k).2.1 ≤ q ∧ ((wst M p q k).1 < p ∨ (wst M p q k).2.1 < q))) ∧ N 4 5 = nI n ∧ (∀ k, k < n → N 15 k = nI (wst M p q (k + 1)).2.2) ∧ N 4 6 = M 4 6 ∧ ∀ z, z ≠ 4 → z ≠ 15 → N z = M z
theorem lk_congr {M N : Mem} {p q i j : Nat} (h : ∀ z, z ≠ 4 → z ≠ 15 → N z = M z) : lkB N p q i j = lkB M p q i j ∧ lkL N p q i j = lkL M p q i j ∧ lkR N p q i j = lkR M p q i j := by
  unfold lkB lkL lkR
  rw [h 12 (by decide) (by decide), h 13 (by decide) (by decide), h 14 (by decide) (by decide), h 2 (by decide) (by decide), h 7 (by decide) (by decide), h 8 (by decide) (by decide), h 10 (by decide) (by decide), h 5 (by decide) (by decide), mtF_congr (h 6 (by decide) (by decide)) (h 9 (by decide) (by decide)) (h 3 (by decide) (by decide))]
  exact ⟨rfl, rfl, rfl⟩
theorem l_walk {M : Mem} {p q : Nat} (hm : mrg M p q) (hpq : p + q ≤ 60) (hav : chOK M p q) : ∀ d n i j l N, d = p + q - (i + j) → i ≤ p → j ≤ q → l ≤ 2 → i = (wst M p q n).1 → j = (wst M p q n).2.1 → l = (wst M p q n).2.2 → n ≤ i + j → (∀ k, k < n → ((wst M p q k).1 ≤ p ∧ (wst M p q k).2.1 ≤ q ∧ ((wst M p q k).1 < p ∨ (wst M p q k).2.1 < q))) → N 4 5 = nI n → (∀ k, k < n → N 15 k = nI (wst M p q (k + 1)).2.2) → N 4 6 = M 4 6 → (∀ z, z ≠ 4 → z ≠ 15 → N z = M z) → G mX1_walk 11 [some (.ref 4), some (.int (nI i)), some (.int (nI j)), some (.int (nI l))] [] N (walkP M p q) := by
  have ⟨m1, m2, m3, m4, m5⟩ := hm
  intro d
  induction d using Nat.strongRecOn with
  | ind d ih =>
    intro n i j l N hd hi hj hl hw1 hw2 hw3 hnij ip i5 i15 i6 i0
    have n1 : N 5 3 = nI p := by rw [i0 5 (by decide) (by decide)]; exact m1
    have n2 : N 8 3 = nI q := by rw [i0 8 (by decide) (by decide)]; exact m2
    have hmN : mrg N p q := ⟨n1, n2, m3, m4, m5⟩
    have l5 := i5
    refine blk 1 [(.aload_n 0, 0, 0, 0), (.getfield 60, 1, 5, 0), (.bipush 60, 0, 0, (nI 60))] [] (by decide +kernel) rfl (pc' := 17) (ls' := [some (.ref 4), some (.int (nI i)), some (.int (nI j)), some (.int (nI l))]) (st' := [.int (nI 60), .int (N 4 5)]) (M' := N) rfl ⟨trivial, rfl, trivial, trivial⟩ ?_
    refine g_icmp_ge (off := 86) (tgt := 103) (by decide +kernel) (by decide) (fun c1 => ?_) (fun c1 => ?_)
    · have nc1 : 60 ≤ n := (nI_leI (by omega) (by omega)).mp (by simpa only [i5, l5, n1, n2, nI_add, pk_mul, nI_s1, n0_lit] using c1)
      exact g_return (by decide +kernel) rfl ⟨rfl, n, by omega, by rw [← hw1]; omega, by rw [← hw2]; omega, ip, i5, i15, i6, i0⟩
    · have nc1 : n < 60 := by
        have z : ¬ nI 60 ≤ nI n := by simpa only [i5, l5, n1, n2, nI_add, pk_mul, nI_s1, n0_lit] using c1
        rw [nI_leI (by omega) (by omega)] at z
        omega
      refine blk 1 [(.iload_n 1, 0, 0, 0), (.aload_n 0, 0, 0, 0), (.getfield 12, 1, 1, 0), (.getfield 50, 4, 3, 0)] [] (by decide +kernel) rfl (pc' := 28) (ls' := [some (.ref 4), some (.int (nI i)), some (.int (nI j)), some (.int (nI l))]) (st' := [.int (N 5 3), .int (nI i)]) (M' := N) rfl ⟨trivial, trivial, rfl, rfl, trivial⟩ ?_
      refine g_icmp_lt (off := 14) (tgt := 42) (by decide +kernel) (by decide) (fun c2 => ?_) (fun c2 => ?_)
      · have nc2 : i < p := (nI_ltI (by omega) (by omega)).mp (by simpa only [i5, l5, n1, n2, nI_add, pk_mul, nI_s1, n0_lit] using c2)
        refine blk 1 [(.aload_n 0, 0, 0, 0), (.iload_n 1, 0, 0, 0), (.iload_n 2, 0, 0, 0)] [] (by decide +kernel) rfl (pc' := 45) (ls' := [some (.ref 4), some (.int (nI i)), some (.int (nI j)), some (.int (nI l))]) (st' := [.int (nI j), .int (nI i), .ref 4]) (M' := N) rfl ⟨trivial, trivial, trivial, trivial⟩ ?_
        refine g_callV (s_look N (p := p) (q := q) hmN hi hj) ok_X1_walk_X1_look (by decide +kernel) rfl (c := 1) rfl (by decide) rfl (Nat.le_of_ble_eq_true rfl) (fun r L h => ?_) rfl
        obtain ⟨hr, l7, l8, l9, l5, l6, lz⟩ := h
        rw [hr]
        show G _ 48 [some (.ref 4), some (.int (nI i)), some (.int (nI j)), some (.int (nI l))] [] L _
        refine blk 1 [(.aload_n 0, 0, 0, 0), (.iload_n 3, 0, 0, 0)] [] (by decide +kernel) rfl (pc' := 50) (ls' := [some (.ref 4), some (.int (nI i)), some (.int (nI j)), some (.int (nI l))]) (st' := [.int (nI l), .ref 4]) (M' := L) rfl ⟨trivial, trivial, trivial⟩ ?_
        refine g_callV (s_choose L (l := l) hl) ok_X1_walk_X1_choose (by decide +kernel) rfl (c := 1) rfl (by decide) rfl (Nat.le_of_ble_eq_true rfl) (fun r M' h => ?_) rfl
        obtain ⟨hr, hM⟩ := h
        rw [hr, hM]
        show G _ 53 [some (.ref 4), some (.int (nI i)), some (.int (nI j)), some (.int (nI l))] [.int (nI (chF L l))] L _
        have ec : chF L l = chM M p q i j l := by
          have ⟨k1, k2, k3⟩ := lk_congr (p := p) (q := q) (i := i) (j := j) i0
          unfold chF chM; rw [l7, l8, l9, l6, k1, k2, k3, i6]
        rw [ec]
        have hs := chV_le (lkB M p q i j) (lkL M p q i j) (lkR M p q i j) (M 4 6) l
        have hok := hav i j l hi hj (by omega) hl
        have hs : chM M p q i j l ≤ 2 := hs
        have l5 : L 4 5 = nI n := l5.trans i5
        generalize hsg : chM M p q i j l = s at hs hok
        have hn : n < 60 := by omega
        refine blk 1 [(.istore_n 3, 0, 0, 0), (.aload_n 0, 0, 0, 0), (.getfield 26, 1, 4, 0), (.aload_n 0, 0, 0, 0), (.getfield 60, 1, 5, 0), (.iload_n 3, 0, 0, 0), (.iastore, 0, 0, 0), (.aload_n 0, 0, 0, 0), (.dup, 0, 0, 0), (.getfield 60, 1, 5, 0), (.iconst 1, 0, 0, (nI 1)), (.iadd, 0, 0, 0), (.putfield 60, 1, 5, 0), (.iload_n 1, 0, 0, 0), (.iload_n 3, 0, 0, 0), (.iconst 2, 0, 0, (nI 2))] [n] (by decide +kernel) rfl (pc' := 77) (ls' := [some (.ref 4), some (.int (nI i)), some (.int (nI j)), some (.int (nI s))]) (st' := [.int (nI 2), .int (nI s), .int (nI i)]) (M' := stm (stm L 15 n (nI s)) 4 5 ((L 4 5) + (nI 1))) rfl ⟨trivial, trivial, rfl, trivial, rfl, trivial, ⟨(by simp only [i5, l5, n1, n2, nI_add, pk_mul, nI_s1, Nat.reduceAdd, Nat.reduceMul]), (by show _ < 60; omega), by decide⟩, trivial, rfl, rfl, trivial, trivial, rfl, trivial, trivial, trivial, trivial⟩ ?_
        refine g_icmp_ne (off := 7) (tgt := 84) (by decide +kernel) (by decide) (fun c3 => ?_) (fun c3 => ?_)
        · have nc3 : s ≠ 2 := by
            have z : ¬ nI s = nI 2 := by simpa only [i5, l5, n1, n2, nI_add, pk_mul, nI_s1, n0_lit] using c3
            rw [nI_eq (by omega) (by omega)] at z
            omega
          refine blk 1 [(.iconst 1, 0, 0, (nI 1)), (.iadd, 0, 0, 0), (.istore_n 1, 0, 0, 0), (.iload_n 2, 0, 0, 0), (.iload_n 3, 0, 0, 0), (.iconst 1, 0, 0, (nI 1))] [] (by decide +kernel) rfl (pc' := 90) (ls' := [some (.ref 4), some (.int ((nI i) + (nI 1))), some (.int (nI j)), some (.int (nI s))]) (st' := [.int (nI 1), .int (nI s), .int (nI j)]) (M' := stm (stm L 15 n (nI s)) 4 5 ((L 4 5) + (nI 1))) rfl ⟨trivial, trivial, trivial, trivial, trivial, trivial, trivial⟩ ?_
          refine g_icmp_ne (off := 7) (tgt := 97) (by decide +kernel) (by decide) (fun c4 => ?_) (fun c4 => ?_)
          · have nc4 : s ≠ 1 := by
              have z : ¬ nI s = nI 1 := by simpa only [i5, l5, n1, n2, nI_add, pk_mul, nI_s1, n0_lit] using c4
              rw [nI_eq (by omega) (by omega)] at z
              omega
            refine blk 1 [(.iconst 1, 0, 0, (nI 1)), (.iadd, 0, 0, 0), (.istore_n 2, 0, 0, 0), (.goto (-89), 11, 0, 0)] [] (by decide +kernel) rfl (pc' := 11) (ls' := [some (.ref 4), some (.int ((nI i) + (nI 1))), some (.int ((nI j) + (nI 1))), some (.int (nI s))]) (st' := []) (M' := stm (stm L 15 n (nI s)) 4 5 ((L 4 5) + (nI 1))) rfl ⟨trivial, trivial, trivial, trivial, trivial⟩ ?_
            have hv := hok.1 (by omega)
            have ew : wst M p q (n + 1) = (i + 1, j + 1, s) := by
              rw [wst, ← hw1, ← hw2, ← hw3, hsg]; simp [*]
            refine G.sub (ls' := [some (.ref 4), some (.int (nI (i + 1))), some (.int (nI (j + 1))), some (.int (nI s))]) ?_ ⟨rfl, congrArg (fun z => some (Value.int z)) (by simp only [nI_add, Nat.add_zero]), congrArg (fun z => some (Value.int z)) (by simp only [nI_add, Nat.add_zero]), rfl, trivial⟩
            refine ih (p + q - ((i + 1) + (j + 1))) (by omega) (n + 1) (i + 1) (j + 1) s _ rfl (by omega) (by omega) hs (by rw [ew]) (by rw [ew]) (by rw [ew]) (by omega) (fun k hk => ?_) ?_ (fun k hk => ?_) ?_ (fun z h4 h15 => ?_)
            · by_cases e : k = n
              · subst e; rw [← hw1, ← hw2]; exact ⟨hi, hj, by omega⟩
              · exact ip k (by omega)
            · rw [stm_self, l5, nI_add]
            · rw [stm_ne (by decide)]
              by_cases e : k = n
              · subst e; rw [stm_self, ew]
              · rw [stm_off e, lz 15 (by decide)]; exact i15 k (by omega)
            · rw [stm_off (by decide), stm_ne (by decide), l6]; exact i6
            · rw [stm_ne h4, stm_ne h15, lz z h4]; exact i0 z h4 h15
          · have nc4 : s = 1 := (nI_eq (by omega) (by omega)).mp (by simpa only [i5, l5, n1, n2, nI_add, pk_mul, nI_s1, n0_lit] using c4)
            refine blk 1 [(.iconst 0, 0, 0, (nI 0)), (.goto (4), 98, 0, 0), (.iadd, 0, 0, 0), (.istore_n 2, 0, 0, 0), (.goto (-89), 11, 0, 0)] [] (by decide +kernel) rfl (pc' := 11) (ls' := [some (.ref 4), some (.int ((nI i) + (nI 1))), some (.int ((nI j) + (nI 0))), some (.int (nI s))]) (st' := []) (M' := stm (stm L 15 n (nI s)) 4 5 ((L 4 5) + (nI 1))) rfl ⟨trivial, trivial, trivial, trivial, trivial, trivial⟩ ?_
            have hv := hok.2.1 nc4
            have ew : wst M p q (n + 1) = (i + 1, j, s) := by
              rw [wst, ← hw1, ← hw2, ← hw3, hsg]; simp [*]
            refine G.sub (ls' := [some (.ref 4), some (.int (nI (i + 1))), some (.int (nI j)), some (.int (nI s))]) ?_ ⟨rfl, congrArg (fun z => some (Value.int z)) (by simp only [nI_add, Nat.add_zero]), congrArg (fun z => some (Value.int z)) (by simp only [nI_add, Nat.add_zero]), rfl, trivial⟩
            refine ih (p + q - ((i + 1) + j)) (by omega) (n + 1) (i + 1) j s _ rfl (by omega) (by omega) hs (by rw [ew]) (by rw [ew]) (by rw [ew]) (by omega) (fun k hk => ?_) ?_ (fun k hk => ?_) ?_ (fun z h4 h15 => ?_)
            · by_cases e : k = n
              · subst e; rw [← hw1, ← hw2]; exact ⟨hi, hj, by omega⟩
              · exact ip k (by omega)
            · rw [stm_self, l5, nI_add]
            · rw [stm_ne (by decide)]
              by_cases e : k = n
              · subst e; rw [stm_self, ew]
              · rw [stm_off e, lz 15 (by decide)]; exact i15 k (by omega)
            · rw [stm_off (by decide), stm_ne (by decide), l6]; exact i6
            · rw [stm_ne h4, stm_ne h15, lz z h4]; exact i0 z h4 h15
        · have nc3 : s = 2 := (nI_eq (by omega) (by omega)).mp (by simpa only [i5, l5, n1, n2, nI_add, pk_mul, nI_s1, n0_lit] using c3)
          refine blk 1 [(.iconst 0, 0, 0, (nI 0)), (.goto (4), 85, 0, 0), (.iadd, 0, 0, 0), (.istore_n 1, 0, 0, 0), (.iload_n 2, 0, 0, 0), (.iload_n 3, 0, 0, 0), (.iconst 1, 0, 0, (nI 1))] [] (by decide +kernel) rfl (pc' := 90) (ls' := [some (.ref 4), some (.int ((nI i) + (nI 0))), some (.int (nI j)), some (.int (nI s))]) (st' := [.int (nI 1), .int (nI s), .int (nI j)]) (M' := stm (stm L 15 n (nI s)) 4 5 ((L 4 5) + (nI 1))) rfl ⟨trivial, trivial, trivial, trivial, trivial, trivial, trivial, trivial⟩ ?_
          refine g_icmp_ne (off := 7) (tgt := 97) (by decide +kernel) (by decide) (fun c5 => ?_) (fun c5 => ?_)
          · have nc5 : s ≠ 1 := by
              have z : ¬ nI s = nI 1 := by simpa only [i5, l5, n1, n2, nI_add, pk_mul, nI_s1, n0_lit] using c5
              rw [nI_eq (by omega) (by omega)] at z
              omega
            refine blk 1 [(.iconst 1, 0, 0, (nI 1)), (.iadd, 0, 0, 0), (.istore_n 2, 0, 0, 0), (.goto (-89), 11, 0, 0)] [] (by decide +kernel) rfl (pc' := 11) (ls' := [some (.ref 4), some (.int ((nI i) + (nI 0))), some (.int ((nI j) + (nI 1))), some (.int (nI s))]) (st' := []) (M' := stm (stm L 15 n (nI s)) 4 5 ((L 4 5) + (nI 1))) rfl ⟨trivial, trivial, trivial, trivial, trivial⟩ ?_
            have hv := hok.2.2 nc3
            have ew : wst M p q (n + 1) = (i, j + 1, s) := by
              rw [wst, ← hw1, ← hw2, ← hw3, hsg]; simp [*]
            refine G.sub (ls' := [some (.ref 4), some (.int (nI i)), some (.int (nI (j + 1))), some (.int (nI s))]) ?_ ⟨rfl, congrArg (fun z => some (Value.int z)) (by simp only [nI_add, Nat.add_zero]), congrArg (fun z => some (Value.int z)) (by simp only [nI_add, Nat.add_zero]), rfl, trivial⟩
            refine ih (p + q - (i + (j + 1))) (by omega) (n + 1) i (j + 1) s _ rfl (by omega) (by omega) hs (by rw [ew]) (by rw [ew]) (by rw [ew]) (by omega) (fun k hk => ?_) ?_ (fun k hk => ?_) ?_ (fun z h4 h15 => ?_)
            · by_cases e : k = n
              · subst e; rw [← hw1, ← hw2]; exact ⟨hi, hj, by omega⟩
              · exact ip k (by omega)
            · rw [stm_self, l5, nI_add]
            · rw [stm_ne (by decide)]
              by_cases e : k = n
              · subst e; rw [stm_self, ew]
              · rw [stm_off e, lz 15 (by decide)]; exact i15 k (by omega)
            · rw [stm_off (by decide), stm_ne (by decide), l6]; exact i6
            · rw [stm_ne h4, stm_ne h15, lz z h4]; exact i0 z h4 h15
          · have nc5 : s = 1 := (nI_eq (by omega) (by omega)).mp (by simpa only [i5, l5, n1, n2, nI_add, pk_mul, nI_s1, n0_lit] using c5)
            refine blk 1 [(.iconst 0, 0, 0, (nI 0)), (.goto (4), 98, 0, 0), (.iadd, 0, 0, 0), (.istore_n 2, 0, 0, 0), (.goto (-89), 11, 0, 0)] [] (by decide +kernel) rfl (pc' := 11) (ls' := [some (.ref 4), some (.int ((nI i) + (nI 0))), some (.int ((nI j) + (nI 0))), some (.int (nI s))]) (st' := []) (M' := stm (stm L 15 n (nI s)) 4 5 ((L 4 5) + (nI 1))) rfl ⟨trivial, trivial, trivial, trivial, trivial, trivial⟩ ?_
            exact absurd (nc3.symm.trans nc5) (by decide)
      · have nc2 : p ≤ i := by
          have z : ¬ nI i < nI p := by simpa only [i5, l5, n1, n2, nI_add, pk_mul, nI_s1, n0_lit] using c2
          rw [nI_ltI (by omega) (by omega)] at z
          omega
        refine blk 1 [(.iload_n 2, 0, 0, 0), (.aload_n 0, 0, 0, 0), (.getfield 18, 1, 2, 0), (.getfield 50, 4, 3, 0)] [] (by decide +kernel) rfl (pc' := 39) (ls' := [some (.ref 4), some (.int (nI i)), some (.int (nI j)), some (.int (nI l))]) (st' := [.int (N 8 3), .int (nI j)]) (M' := N) rfl ⟨trivial, trivial, rfl, rfl, trivial⟩ ?_
        refine g_icmp_ge (off := 64) (tgt := 103) (by decide +kernel) (by decide) (fun c6 => ?_) (fun c6 => ?_)
        · have nc6 : q ≤ j := (nI_leI (by omega) (by omega)).mp (by simpa only [i5, l5, n1, n2, nI_add, pk_mul, nI_s1, n0_lit] using c6)
          exact g_return (by decide +kernel) rfl ⟨rfl, n, by omega, by rw [← hw1]; omega, by rw [← hw2]; omega, ip, i5, i15, i6, i0⟩
        · have nc6 : j < q := by
            have z : ¬ nI q ≤ nI j := by simpa only [i5, l5, n1, n2, nI_add, pk_mul, nI_s1, n0_lit] using c6
            rw [nI_leI (by omega) (by omega)] at z
            omega
          refine blk 1 [(.aload_n 0, 0, 0, 0), (.iload_n 1, 0, 0, 0), (.iload_n 2, 0, 0, 0)] [] (by decide +kernel) rfl (pc' := 45) (ls' := [some (.ref 4), some (.int (nI i)), some (.int (nI j)), some (.int (nI l))]) (st' := [.int (nI j), .int (nI i), .ref 4]) (M' := N) rfl ⟨trivial, trivial, trivial, trivial⟩ ?_
          refine g_callV (s_look N (p := p) (q := q) hmN hi hj) ok_X1_walk_X1_look (by decide +kernel) rfl (c := 1) rfl (by decide) rfl (Nat.le_of_ble_eq_true rfl) (fun r L h => ?_) rfl
          obtain ⟨hr, l7, l8, l9, l5, l6, lz⟩ := h
          rw [hr]
          show G _ 48 [some (.ref 4), some (.int (nI i)), some (.int (nI j)), some (.int (nI l))] [] L _
          refine blk 1 [(.aload_n 0, 0, 0, 0), (.iload_n 3, 0, 0, 0)] [] (by decide +kernel) rfl (pc' := 50) (ls' := [some (.ref 4), some (.int (nI i)), some (.int (nI j)), some (.int (nI l))]) (st' := [.int (nI l), .ref 4]) (M' := L) rfl ⟨trivial, trivial, trivial⟩ ?_
          refine g_callV (s_choose L (l := l) hl) ok_X1_walk_X1_choose (by decide +kernel) rfl (c := 1) rfl (by decide) rfl (Nat.le_of_ble_eq_true rfl) (fun r M' h => ?_) rfl
          obtain ⟨hr, hM⟩ := h
          rw [hr, hM]
          show G _ 53 [some (.ref 4), some (.int (nI i)), some (.int (nI j)), some (.int (nI l))] [.int (nI (chF L l))] L _
          have ec : chF L l = chM M p q i j l := by
            have ⟨k1, k2, k3⟩ := lk_congr (p := p) (q := q) (i := i) (j := j) i0
            unfold chF chM; rw [l7, l8, l9, l6, k1, k2, k3, i6]
          rw [ec]
          have hs := chV_le (lkB M p q i j) (lkL M p q i j) (lkR M p q i j) (M 4 6) l
          have hok := hav i j l hi hj (by omega) hl
          have hs : chM M p q i j l ≤ 2 := hs
          have l5 : L 4 5 = nI n := l5.trans i5
          generalize hsg : chM M p q i j l = s at hs hok
          have hn : n < 60 := by omega
          refine blk 1 [(.istore_n 3, 0, 0, 0), (.aload_n 0, 0, 0, 0), (.getfield 26, 1, 4, 0), (.aload_n 0, 0, 0, 0), (.getfield 60, 1, 5, 0), (.iload_n 3, 0, 0, 0), (.iastore, 0, 0, 0), (.aload_n 0, 0, 0, 0), (.dup, 0, 0, 0), (.getfield 60, 1, 5, 0), (.iconst 1, 0, 0, (nI 1)), (.iadd, 0, 0, 0), (.putfield 60, 1, 5, 0), (.iload_n 1, 0, 0, 0), (.iload_n 3, 0, 0, 0), (.iconst 2, 0, 0, (nI 2))] [n] (by decide +kernel) rfl (pc' := 77) (ls' := [some (.ref 4), some (.int (nI i)), some (.int (nI j)), some (.int (nI s))]) (st' := [.int (nI 2), .int (nI s), .int (nI i)]) (M' := stm (stm L 15 n (nI s)) 4 5 ((L 4 5) + (nI 1))) rfl ⟨trivial, trivial, rfl, trivial, rfl, trivial, ⟨(by simp only [i5, l5, n1, n2, nI_add, pk_mul, nI_s1, Nat.reduceAdd, Nat.reduceMul]), (by show _ < 60; omega), by decide⟩, trivial, rfl, rfl, trivial, trivial, rfl, trivial, trivial, trivial, trivial⟩ ?_
          refine g_icmp_ne (off := 7) (tgt := 84) (by decide +kernel) (by decide) (fun c7 => ?_) (fun c7 => ?_)
          · have nc7 : s ≠ 2 := by
              have z : ¬ nI s = nI 2 := by simpa only [i5, l5, n1, n2, nI_add, pk_mul, nI_s1, n0_lit] using c7
              rw [nI_eq (by omega) (by omega)] at z
              omega
            refine blk 1 [(.iconst 1, 0, 0, (nI 1)), (.iadd, 0, 0, 0), (.istore_n 1, 0, 0, 0), (.iload_n 2, 0, 0, 0), (.iload_n 3, 0, 0, 0), (.iconst 1, 0, 0, (nI 1))] [] (by decide +kernel) rfl (pc' := 90) (ls' := [some (.ref 4), some (.int ((nI i) + (nI 1))), some (.int (nI j)), some (.int (nI s))]) (st' := [.int (nI 1), .int (nI s), .int (nI j)]) (M' := stm (stm L 15 n (nI s)) 4 5 ((L 4 5) + (nI 1))) rfl ⟨trivial, trivial, trivial, trivial, trivial, trivial, trivial⟩ ?_
            refine g_icmp_ne (off := 7) (tgt := 97) (by decide +kernel) (by decide) (fun c8 => ?_) (fun c8 => ?_)
            · have nc8 : s ≠ 1 := by
                have z : ¬ nI s = nI 1 := by simpa only [i5, l5, n1, n2, nI_add, pk_mul, nI_s1, n0_lit] using c8
                rw [nI_eq (by omega) (by omega)] at z
                omega
              refine blk 1 [(.iconst 1, 0, 0, (nI 1)), (.iadd, 0, 0, 0), (.istore_n 2, 0, 0, 0), (.goto (-89), 11, 0, 0)] [] (by decide +kernel) rfl (pc' := 11) (ls' := [some (.ref 4), some (.int ((nI i) + (nI 1))), some (.int ((nI j) + (nI 1))), some (.int (nI s))]) (st' := []) (M' := stm (stm L 15 n (nI s)) 4 5 ((L 4 5) + (nI 1))) rfl ⟨trivial, trivial, trivial, trivial, trivial⟩ ?_
              have hv := hok.1 (by omega)
              have ew : wst M p q (n + 1) = (i + 1, j + 1, s) := by
                rw [wst, ← hw1, ← hw2, ← hw3, hsg]; simp [*]
              refine G.sub (ls' := [some (.ref 4), some (.int (nI (i + 1))), some (.int (nI (j + 1))), some (.int (nI s))]) ?_ ⟨rfl, congrArg (fun z => some (Value.int z)) (by simp only [nI_add, Nat.add_zero]), congrArg (fun z => some (Value.int z)) (by simp only [nI_add, Nat.add_zero]), rfl, trivial⟩
              refine ih (p + q - ((i + 1) + (j + 1))) (by omega) (n + 1) (i + 1) (j + 1) s _ rfl (by omega) (by omega) hs (by rw [ew]) (by rw [ew]) (by rw [ew]) (by omega) (fun k hk => ?_) ?_ (fun k hk => ?_) ?_ (fun z h4 h15 => ?_)
              · by_cases e : k = n
                · subst e; rw [← hw1, ← hw2]; exact ⟨hi, hj, by omega⟩
                · exact ip k (by omega)
              · rw [stm_self, l5, nI_add]
              · rw [stm_ne (by decide)]
                by_cases e : k = n
                · subst e; rw [stm_self, ew]
                · rw [stm_off e, lz 15 (by decide)]; exact i15 k (by omega)
              · rw [stm_off (by decide), stm_ne (by decide), l6]; exact i6
              · rw [stm_ne h4, stm_ne h15, lz z h4]; exact i0 z h4 h15
            · have nc8 : s = 1 := (nI_eq (by omega) (by omega)).mp (by simpa only [i5, l5, n1, n2, nI_add, pk_mul, nI_s1, n0_lit] using c8)
              refine blk 1 [(.iconst 0, 0, 0, (nI 0)), (.goto (4), 98, 0, 0), (.iadd, 0, 0, 0), (.istore_n 2, 0, 0, 0), (.goto (-89), 11, 0, 0)] [] (by decide +kernel) rfl (pc' := 11) (ls' := [some (.ref 4), some (.int ((nI i) + (nI 1))), some (.int ((nI j) + (nI 0))), some (.int (nI s))]) (st' := []) (M' := stm (stm L 15 n (nI s)) 4 5 ((L 4 5) + (nI 1))) rfl ⟨trivial, trivial, trivial, trivial, trivial, trivial⟩ ?_
              have hv := hok.2.1 nc8
              have ew : wst M p q (n + 1) = (i + 1, j, s) := by
                rw [wst, ← hw1, ← hw2, ← hw3, hsg]; simp [*]
              refine G.sub (ls' := [some (.ref 4), some (.int (nI (i + 1))), some (.int (nI j)), some (.int (nI s))]) ?_ ⟨rfl, congrArg (fun z => some (Value.int z)) (by simp only [nI_add, Nat.add_zero]), congrArg (fun z => some (Value.int z)) (by simp only [nI_add, Nat.add_zero]), rfl, trivial⟩
              refine ih (p + q - ((i + 1) + j)) (by omega) (n + 1) (i + 1) j s _ rfl (by omega) (by omega) hs (by rw [ew]) (by rw [ew]) (by rw [ew]) (by omega) (fun k hk => ?_) ?_ (fun k hk => ?_) ?_ (fun z h4 h15 => ?_)
              · by_cases e : k = n
                · subst e; rw [← hw1, ← hw2]; exact ⟨hi, hj, by omega⟩
                · exact ip k (by omega)
              · rw [stm_self, l5, nI_add]
              · rw [stm_ne (by decide)]
                by_cases e : k = n
                · subst e; rw [stm_self, ew]
                · rw [stm_off e, lz 15 (by decide)]; exact i15 k (by omega)
              · rw [stm_off (by decide), stm_ne (by decide), l6]; exact i6
              · rw [stm_ne h4, stm_ne h15, lz z h4]; exact i0 z h4 h15
          · have nc7 : s = 2 := (nI_eq (by omega) (by omega)).mp (by simpa only [i5, l5, n1, n2, nI_add, pk_mul, nI_s1, n0_lit] using c7)
            refine blk 1 [(.iconst 0, 0, 0, (nI 0)), (.goto (4), 85, 0, 0), (.iadd, 0, 0, 0), (.istore_n 1, 0, 0, 0), (.iload_n 2, 0, 0, 0), (.iload_n 3, 0, 0, 0), (.iconst 1, 0, 0, (nI 1))] [] (by decide +kernel) rfl (pc' := 90) (ls' := [some (.ref 4), some (.int ((nI i) + (nI 0))), some (.int (nI j)), some (.int (nI s))]) (st' := [.int (nI 1), .int (nI s), .int (nI j)]) (M' := stm (stm L 15 n (nI s)) 4 5 ((L 4 5) + (nI 1))) rfl ⟨trivial, trivial, trivial, trivial, trivial, trivial, trivial, trivial⟩ ?_
            refine g_icmp_ne (off := 7) (tgt := 97) (by decide +kernel) (by decide) (fun c9 => ?_) (fun c9 => ?_)
            · have nc9 : s ≠ 1 := by
                have z : ¬ nI s = nI 1 := by simpa only [i5, l5, n1, n2, nI_add, pk_mul, nI_s1, n0_lit] using c9
                rw [nI_eq (by omega) (by omega)] at z
                omega
              refine blk 1 [(.iconst 1, 0, 0, (nI 1)), (.iadd, 0, 0, 0), (.istore_n 2, 0, 0, 0), (.goto (-89), 11, 0, 0)] [] (by decide +kernel) rfl (pc' := 11) (ls' := [some (.ref 4), some (.int ((nI i) + (nI 0))), some (.int ((nI j) + (nI 1))), some (.int (nI s))]) (st' := []) (M' := stm (stm L 15 n (nI s)) 4 5 ((L 4 5) + (nI 1))) rfl ⟨trivial, trivial, trivial, trivial, trivial⟩ ?_
              have hv := hok.2.2 nc7
              have ew : wst M p q (n + 1) = (i, j + 1, s) := by
                rw [wst, ← hw1, ← hw2, ← hw3, hsg]; simp [*]
              refine G.sub (ls' := [some (.ref 4), some (.int (nI i)), some (.int (nI (j + 1))), some (.int (nI s))]) ?_ ⟨rfl, congrArg (fun z => some (Value.int z)) (by simp only [nI_add, Nat.add_zero]), congrArg (fun z => some (Value.int z)) (by simp only [nI_add, Nat.add_zero]), rfl, trivial⟩
              refine ih (p + q - (i + (j + 1))) (by omega) (n + 1) i (j + 1) s _ rfl (by omega) (by omega) hs (by rw [ew]) (by rw [ew]) (by rw [ew]) (by omega) (fun k hk => ?_) ?_ (fun k hk => ?_) ?_ (fun z h4 h15 => ?_)
              · by_cases e : k = n
                · subst e; rw [← hw1, ← hw2]; exact ⟨hi, hj, by omega⟩
                · exact ip k (by omega)
              · rw [stm_self, l5, nI_add]
              · rw [stm_ne (by decide)]
                by_cases e : k = n
                · subst e; rw [stm_self, ew]
                · rw [stm_off e, lz 15 (by decide)]; exact i15 k (by omega)
              · rw [stm_off (by decide), stm_ne (by decide), l6]; exact i6
              · rw [stm_ne h4, stm_ne h15, lz z h4]; exact i0 z h4 h15
            · have nc9 : s = 1 := (nI_eq (by omega) (by omega)).mp (by simpa only [i5, l5, n1, n2, nI_add, pk_mul, nI_s1, n0_lit] using c9)
              refine blk 1 [(.iconst 0, 0, 0, (nI 0)), (.goto (4), 98, 0, 0), (.iadd, 0, 0, 0), (.istore_n 2, 0, 0, 0), (.goto (-89), 11, 0, 0)] [] (by decide +kernel) rfl (pc' := 11) (ls' := [some (.ref 4), some (.int ((nI i) + (nI 0))), some (.int ((nI j) + (nI 0))), some (.int (nI s))]) (st' := []) (M' := stm (stm L 15 n (nI s)) 4 5 ((L 4 5) + (nI 1))) rfl ⟨trivial, trivial, trivial, trivial, trivial, trivial⟩ ?_
              exact absurd (nc7.symm.trans nc9) (by decide)
theorem s_walk (M : Mem) {p q : Nat} (hm : mrg M p q) (hpq : p + q ≤ 60) (hav : chOK M p q) : Spec mX1_walk [.ref 4] M (walkP M p q) := by
  refine Spec.of (by decide) (by simp [Value.category]) (Nat.le_of_ble_eq_true rfl) ?_
  refine blk 1 [(.iconst 0, 0, 0, (nI 0)), (.istore_n 1, 0, 0, 0), (.iconst 0, 0, 0, (nI 0)), (.istore_n 2, 0, 0, 0), (.iconst 0, 0, 0, (nI 0)), (.istore_n 3, 0, 0, 0), (.aload_n 0, 0, 0, 0), (.iconst 0, 0, 0, (nI 0)), (.putfield 60, 1, 5, 0)] [] (by decide +kernel) rfl (pc' := 11) (ls' := [some (.ref 4), some (.int (nI 0)), some (.int (nI 0)), some (.int (nI 0))]) (st' := []) (M' := stm M 4 5 (nI 0)) rfl ⟨trivial, trivial, trivial, trivial, trivial, trivial, trivial, trivial, rfl, trivial⟩ ?_
  exact l_walk hm hpq hav _ 0 0 0 0 _ rfl (by omega) (by omega) (by omega) rfl rfl rfl (by omega) (fun k h => absurd h (by omega)) (by rw [stm_self]) (fun k h => absurd h (by omega)) (by rw [stm_off (by decide)]) (fun z h4 _ => by rw [stm_ne h4])
