/-! the reference: timesIn, shared, countOf, useWeights, isInner, child, worth, weight, at, end -/
def tinF (M : Mem) (i t : Nat) : Nat → Int32 := fun k => if nI 4 * M 74 (12 * i + k) + M 74 (12 * i + k + 1) = nI t then 1 else 0
theorem l_timesIn {M : Mem} {i t L : Nat} (hi : i < 5) (hL : M 73 i = nI L) (hL1 : 1 ≤ L) (hL2 : L ≤ 12) : ∀ d k, d = L - 1 - k → k ≤ L - 1 → G mX7_timesIn 5 [some (.ref 72), some (.int (nI i)), some (.int (nI t)), some (.int (psum (tinF M i t) k)), some (.int (nI k))] [] M (Ret (psum (tinF M i t) (L - 1)) M) := by
  intro d
  induction d using Nat.strongRecOn with
  | ind d ih =>
    intro k hd hk
    refine blk 7 [(.iload 4, 0, 0, 0), (.iconst 1, 0, 0, (nI 1)), (.iadd, 0, 0, 0), (.aload_n 0, 0, 0, 0), (.getfield 7, 7, 1, 0), (.iload_n 1, 0, 0, 0), (.iaload, 0, 0, 0)] [i] (by decide +kernel) rfl (pc' := 15) (ls' := [some (.ref 72), some (.int (nI i)), some (.int (nI t)), some (.int (psum (tinF M i t) k)), some (.int (nI k))]) (st' := [.int (M 73 i), .int ((nI k) + (nI 1))]) (M' := M) rfl ⟨trivial, trivial, trivial, trivial, rfl, trivial, ⟨rfl, (by show _ < 5; omega)⟩, trivial⟩ ?_
    refine g_icmp_ge (off := 50) (tgt := 65) (by decide +kernel) (by decide) (fun c1 => ?_) (fun c1 => ?_)
    · have nc1 : L ≤ (k + 1) := (nI_leI (by omega) (by omega)).mp (by simpa only [hL, nI_add, pk_mul, nI_s1, n0_lit] using c1)
      refine blk 7 [(.iload_n 3, 0, 0, 0)] [] (by decide +kernel) rfl (pc' := 66) (ls' := [some (.ref 72), some (.int (nI i)), some (.int (nI t)), some (.int (psum (tinF M i t) k)), some (.int (nI k))]) (st' := [.int (psum (tinF M i t) k)]) (M' := M) rfl ⟨trivial, trivial⟩ ?_
      have e : k = L - 1 := by omega
      subst e
      exact g_ireturn (by decide +kernel) rfl rfl ⟨rfl, rfl⟩
    · have nc1 : (k + 1) < L := by
        have z : ¬ nI L ≤ nI (k + 1) := by simpa only [hL, nI_add, pk_mul, nI_s1, n0_lit] using c1
        rw [nI_leI (by omega) (by omega)] at z
        omega
      refine blk 7 [(.iload_n 3, 0, 0, 0), (.iconst 4, 0, 0, (nI 4)), (.aload_n 0, 0, 0, 0), (.getfield 13, 7, 2, 0), (.bipush 12, 0, 0, (nI 12)), (.iload_n 1, 0, 0, 0), (.imul, 0, 0, 0), (.iload 4, 0, 0, 0), (.iadd, 0, 0, 0), (.iaload, 0, 0, 0), (.imul, 0, 0, 0), (.aload_n 0, 0, 0, 0), (.getfield 13, 7, 2, 0), (.bipush 12, 0, 0, (nI 12)), (.iload_n 1, 0, 0, 0), (.imul, 0, 0, 0), (.iload 4, 0, 0, 0), (.iadd, 0, 0, 0), (.iconst 1, 0, 0, (nI 1)), (.iadd, 0, 0, 0), (.iaload, 0, 0, 0), (.iadd, 0, 0, 0), (.iload_n 2, 0, 0, 0)] [12 * i + k, 12 * i + k + 1] (by decide +kernel) rfl (pc' := 49) (ls' := [some (.ref 72), some (.int (nI i)), some (.int (nI t)), some (.int (psum (tinF M i t) k)), some (.int (nI k))]) (st' := [.int (nI t), .int (((nI 4) * (M 74 (12 * i + k))) + (M 74 (12 * i + k + 1))), .int (psum (tinF M i t) k)]) (M' := M) rfl ⟨trivial, trivial, trivial, rfl, trivial, trivial, trivial, trivial, trivial, ⟨(by simp only [hL, nI_add, pk_mul, nI_s1, Nat.reduceAdd, Nat.reduceMul]), (by show _ < 60; omega)⟩, trivial, trivial, rfl, trivial, trivial, trivial, trivial, trivial, trivial, trivial, ⟨(by simp only [hL, nI_add, pk_mul, nI_s1, Nat.reduceAdd, Nat.reduceMul]), (by show _ < 60; omega)⟩, trivial, trivial, trivial⟩ ?_
      refine g_icmp_ne (off := 7) (tgt := 56) (by decide +kernel) (by decide) (fun c2 => ?_) (fun c2 => ?_)
      · refine blk 7 [(.iconst 0, 0, 0, (nI 0)), (.iadd, 0, 0, 0), (.istore_n 3, 0, 0, 0), (.iinc 4 1, 0, 0, (nI 1)), (.goto (-57), 5, 0, 0)] [] (by decide +kernel) rfl (pc' := 5) (ls' := [some (.ref 72), some (.int (nI i)), some (.int (nI t)), some (.int ((psum (tinF M i t) k) + (nI 0))), some (.int (nI k + nI 1))]) (st' := []) (M' := M) rfl ⟨trivial, trivial, trivial, trivial, trivial, trivial⟩ ?_
        have e : psum (tinF M i t) (k + 1) = (psum (tinF M i t) k) + (nI 0) := by
          rw [psum]; congr 1; simp only [tinF]; rw [if_neg c2]; exact nI_0.symm
        refine G.sub (ls' := [some (.ref 72), some (.int (nI i)), some (.int (nI t)), some (.int (psum (tinF M i t) (k + 1))), some (.int (nI (k + 1)))]) ?_ ⟨rfl, rfl, rfl, congrArg (fun z => some (Value.int z)) e.symm, congrArg (fun z => some (Value.int z)) (by simp only [nI_add, nI_s1]), trivial⟩
        exact ih (d - 1) (by omega) (k + 1) (by omega) (by omega)
      · refine blk 7 [(.iconst 1, 0, 0, (nI 1)), (.goto (4), 57, 0, 0), (.iadd, 0, 0, 0), (.istore_n 3, 0, 0, 0), (.iinc 4 1, 0, 0, (nI 1)), (.goto (-57), 5, 0, 0)] [] (by decide +kernel) rfl (pc' := 5) (ls' := [some (.ref 72), some (.int (nI i)), some (.int (nI t)), some (.int ((psum (tinF M i t) k) + (nI 1))), some (.int (nI k + nI 1))]) (st' := []) (M' := M) rfl ⟨trivial, trivial, trivial, trivial, trivial, trivial, trivial⟩ ?_
        have e : psum (tinF M i t) (k + 1) = (psum (tinF M i t) k) + (nI 1) := by
          rw [psum]; congr 1; simp only [tinF]; rw [if_pos c2]; exact n1_lit.symm
        refine G.sub (ls' := [some (.ref 72), some (.int (nI i)), some (.int (nI t)), some (.int (psum (tinF M i t) (k + 1))), some (.int (nI (k + 1)))]) ?_ ⟨rfl, rfl, rfl, congrArg (fun z => some (Value.int z)) e.symm, congrArg (fun z => some (Value.int z)) (by simp only [nI_add, nI_s1]), trivial⟩
        exact ih (d - 1) (by omega) (k + 1) (by omega) (by omega)
theorem s_timesIn (M : Mem) {i L : Nat} (t : Nat) (hi : i < 5) (hL : M 73 i = nI L) (hL1 : 1 ≤ L) (hL2 : L ≤ 12) : Spec mX7_timesIn [.ref 72, .int (nI i), .int (nI t)] M (Ret (psum (tinF M i t) (L - 1)) M) := by
  refine Spec.of (by decide) (by simp [Value.category]) (Nat.le_of_ble_eq_true rfl) ?_
  refine blk 7 [(.iconst 0, 0, 0, (nI 0)), (.istore_n 3, 0, 0, 0), (.iconst 0, 0, 0, (nI 0)), (.istore 4, 0, 0, 0)] [] (by decide +kernel) rfl (pc' := 5) (ls' := [some (.ref 72), some (.int (nI i)), some (.int (nI t)), some (.int (nI 0)), some (.int (nI 0))]) (st' := []) (M' := M) rfl ⟨trivial, trivial, trivial, trivial, trivial⟩ ?_
  exact l_timesIn hi hL hL1 hL2 _ 0 rfl (by omega)
def shF (M : Mem) (i j Li Lj : Nat) : Nat → Int32 := fun t => if psum (tinF M j t) (Lj - 1) ≤ psum (tinF M i t) (Li - 1) then psum (tinF M j t) (Lj - 1) else psum (tinF M i t) (Li - 1)
theorem l_shared {M : Mem} {i j Li Lj : Nat} (hi : i < 5) (hj : j < 5) (hi1 : mwordOK M i Li) (hj1 : mwordOK M j Lj) : ∀ d t, d = 16 - t → t ≤ 16 → G mX7_shared 5 [some (.ref 72), some (.int (nI i)), some (.int (nI j)), some (.int (psum (shF M i j Li Lj) t)), some (.int (nI t)), none, none] [] M (Ret (psum (shF M i j Li Lj) 16) M) := by
  intro d
  induction d using Nat.strongRecOn with
  | ind d ih =>
    intro t hd ht
    refine blk 7 [(.iload 4, 0, 0, 0), (.bipush 16, 0, 0, (nI 16))] [] (by decide +kernel) rfl (pc' := 9) (ls' := [some (.ref 72), some (.int (nI i)), some (.int (nI j)), some (.int (psum (shF M i j Li Lj) t)), some (.int (nI t)), none, none]) (st' := [.int (nI 16), .int (nI t)]) (M' := M) rfl ⟨trivial, trivial, trivial⟩ ?_
    refine g_icmp_ge (off := 44) (tgt := 53) (by decide +kernel) (by decide) (fun c1 => ?_) (fun c1 => ?_)
    · have nc1 : 16 ≤ t := (nI_leI (by omega) (by omega)).mp (by simpa only [nI_add, pk_mul, nI_s1, n0_lit] using c1)
      refine blk 7 [(.iload_n 3, 0, 0, 0)] [] (by decide +kernel) rfl (pc' := 54) (ls' := [some (.ref 72), some (.int (nI i)), some (.int (nI j)), some (.int (psum (shF M i j Li Lj) t)), some (.int (nI t)), none, none]) (st' := [.int (psum (shF M i j Li Lj) t)]) (M' := M) rfl ⟨trivial, trivial⟩ ?_
      have e : t = 16 := by omega
      subst e
      exact g_ireturn (by decide +kernel) rfl rfl ⟨rfl, rfl⟩
    · have nc1 : t < 16 := by
        have z : ¬ nI 16 ≤ nI t := by simpa only [nI_add, pk_mul, nI_s1, n0_lit] using c1
        rw [nI_leI (by omega) (by omega)] at z
        omega
      refine blk 7 [(.aload_n 0, 0, 0, 0), (.iload_n 1, 0, 0, 0), (.iload 4, 0, 0, 0)] [] (by decide +kernel) rfl (pc' := 16) (ls' := [some (.ref 72), some (.int (nI i)), some (.int (nI j)), some (.int (psum (shF M i j Li Lj) t)), some (.int (nI t)), none, none]) (st' := [.int (nI t), .int (nI i), .ref 72]) (M' := M) rfl ⟨trivial, trivial, trivial, trivial⟩ ?_
      refine g_callV (s_timesIn M (i := i) (L := Li) t hi hi1.1 hi1.2.1 hi1.2.2.1) ok_X7_shared_X7_timesIn (by decide +kernel) rfl (c := 7) rfl (by decide) rfl (Nat.le_of_ble_eq_true rfl) (fun r M' h => ?_) rfl
      obtain ⟨hr, hM⟩ := h
      rw [hr, hM]
      show G _ 19 [some (.ref 72), some (.int (nI i)), some (.int (nI j)), some (.int (psum (shF M i j Li Lj) t)), some (.int (nI t)), none, none] [.int (psum (tinF M i t) (Li - 1))] M _
      refine blk 7 [(.istore 5, 0, 0, 0), (.aload_n 0, 0, 0, 0), (.iload_n 2, 0, 0, 0), (.iload 4, 0, 0, 0)] [] (by decide +kernel) rfl (pc' := 25) (ls' := [some (.ref 72), some (.int (nI i)), some (.int (nI j)), some (.int (psum (shF M i j Li Lj) t)), some (.int (nI t)), some (.int (psum (tinF M i t) (Li - 1))), none]) (st' := [.int (nI t), .int (nI j), .ref 72]) (M' := M) rfl ⟨trivial, trivial, trivial, trivial, trivial⟩ ?_
      refine g_callV (s_timesIn M (i := j) (L := Lj) t hj hj1.1 hj1.2.1 hj1.2.2.1) ok_X7_shared_X7_timesIn (by decide +kernel) rfl (c := 7) rfl (by decide) rfl (Nat.le_of_ble_eq_true rfl) (fun r M' h => ?_) rfl
      obtain ⟨hr, hM⟩ := h
      rw [hr, hM]
      show G _ 28 [some (.ref 72), some (.int (nI i)), some (.int (nI j)), some (.int (psum (shF M i j Li Lj) t)), some (.int (nI t)), some (.int (psum (tinF M i t) (Li - 1))), none] [.int (psum (tinF M j t) (Lj - 1))] M _
      refine blk 7 [(.istore 6, 0, 0, 0), (.iload_n 3, 0, 0, 0), (.iload 5, 0, 0, 0), (.iload 6, 0, 0, 0)] [] (by decide +kernel) rfl (pc' := 35) (ls' := [some (.ref 72), some (.int (nI i)), some (.int (nI j)), some (.int (psum (shF M i j Li Lj) t)), some (.int (nI t)), some (.int (psum (tinF M i t) (Li - 1))), some (.int (psum (tinF M j t) (Lj - 1)))]) (st' := [.int (psum (tinF M j t) (Lj - 1)), .int (psum (tinF M i t) (Li - 1)), .int (psum (shF M i j Li Lj) t)]) (M' := M) rfl ⟨trivial, trivial, trivial, trivial, trivial⟩ ?_
      refine g_icmp_ge (off := 8) (tgt := 43) (by decide +kernel) (by decide) (fun c2 => ?_) (fun c2 => ?_)
      · refine blk 7 [(.iload 6, 0, 0, 0), (.iadd, 0, 0, 0), (.istore_n 3, 0, 0, 0), (.iinc 4 1, 0, 0, (nI 1)), (.goto (-45), 5, 0, 0)] [] (by decide +kernel) rfl (pc' := 5) (ls' := [some (.ref 72), some (.int (nI i)), some (.int (nI j)), some (.int ((psum (shF M i j Li Lj) t) + (psum (tinF M j t) (Lj - 1)))), some (.int (nI t + nI 1)), some (.int (psum (tinF M i t) (Li - 1))), some (.int (psum (tinF M j t) (Lj - 1)))]) (st' := []) (M' := M) rfl ⟨trivial, trivial, trivial, trivial, trivial, trivial⟩ ?_
        have e : psum (shF M i j Li Lj) (t + 1) = (psum (shF M i j Li Lj) t) + (psum (tinF M j t) (Lj - 1)) := by
          rw [psum]; congr 1; simp only [shF]; rw [if_pos c2]
        refine G.sub (ls' := [some (.ref 72), some (.int (nI i)), some (.int (nI j)), some (.int (psum (shF M i j Li Lj) (t + 1))), some (.int (nI (t + 1))), none, none]) ?_ ⟨rfl, rfl, rfl, congrArg (fun z => some (Value.int z)) e.symm, congrArg (fun z => some (Value.int z)) (by simp only [nI_add, nI_s1]), trivial⟩
        exact ih (d - 1) (by omega) (t + 1) (by omega) (by omega)
      · refine blk 7 [(.iload 5, 0, 0, 0), (.goto (5), 45, 0, 0), (.iadd, 0, 0, 0), (.istore_n 3, 0, 0, 0), (.iinc 4 1, 0, 0, (nI 1)), (.goto (-45), 5, 0, 0)] [] (by decide +kernel) rfl (pc' := 5) (ls' := [some (.ref 72), some (.int (nI i)), some (.int (nI j)), some (.int ((psum (shF M i j Li Lj) t) + (psum (tinF M i t) (Li - 1)))), some (.int (nI t + nI 1)), some (.int (psum (tinF M i t) (Li - 1))), some (.int (psum (tinF M j t) (Lj - 1)))]) (st' := []) (M' := M) rfl ⟨trivial, trivial, trivial, trivial, trivial, trivial, trivial⟩ ?_
        have e : psum (shF M i j Li Lj) (t + 1) = (psum (shF M i j Li Lj) t) + (psum (tinF M i t) (Li - 1)) := by
          rw [psum]; congr 1; simp only [shF]; rw [if_neg c2]
        refine G.sub (ls' := [some (.ref 72), some (.int (nI i)), some (.int (nI j)), some (.int (psum (shF M i j Li Lj) (t + 1))), some (.int (nI (t + 1))), none, none]) ?_ ⟨rfl, rfl, rfl, congrArg (fun z => some (Value.int z)) e.symm, congrArg (fun z => some (Value.int z)) (by simp only [nI_add, nI_s1]), trivial⟩
        exact ih (d - 1) (by omega) (t + 1) (by omega) (by omega)
theorem s_shared (M : Mem) {i j Li Lj : Nat} (hi : i < 5) (hj : j < 5) (hi1 : mwordOK M i Li) (hj1 : mwordOK M j Lj) : Spec mX7_shared [.ref 72, .int (nI i), .int (nI j)] M (Ret (psum (shF M i j Li Lj) 16) M) := by
  refine Spec.of (by decide) (by simp [Value.category]) (Nat.le_of_ble_eq_true rfl) ?_
  refine blk 7 [(.iconst 0, 0, 0, (nI 0)), (.istore_n 3, 0, 0, 0), (.iconst 0, 0, 0, (nI 0)), (.istore 4, 0, 0, 0)] [] (by decide +kernel) rfl (pc' := 5) (ls' := [some (.ref 72), some (.int (nI i)), some (.int (nI j)), some (.int (nI 0)), some (.int (nI 0)), none, none]) (st' := []) (M' := M) rfl ⟨trivial, trivial, trivial, trivial, trivial⟩ ?_
  exact l_shared hi hj hi1 hj1 _ 0 rfl (by omega)
theorem l_count {M : Mem} {S : Int32} : ∀ d i, d = 5 - i → i ≤ 5 → G mX7_countOf 4 [some (.ref 72), some (.int S), some (.int (psum (fun a => hb S a) i)), some (.int (nI i))] [] M (Ret (psum (fun a => hb S a) 5) M) := by
  intro d
  induction d using Nat.strongRecOn with
  | ind d ih =>
    intro i hd hj
    refine blk 7 [(.iload_n 3, 0, 0, 0), (.iconst 5, 0, 0, (nI 5))] [] (by decide +kernel) rfl (pc' := 6) (ls' := [some (.ref 72), some (.int S), some (.int (psum (fun a => hb S a) i)), some (.int (nI i))]) (st' := [.int (nI 5), .int (nI i)]) (M' := M) rfl ⟨trivial, trivial, trivial⟩ ?_
    refine g_icmp_ge (off := 26) (tgt := 32) (by decide +kernel) (by decide) (fun c1 => ?_) (fun c1 => ?_)
    · have nc1 : 5 ≤ i := (nI_leI (by omega) (by omega)).mp (by simpa only [nI_add, pk_mul, nI_s1, n0_lit] using c1)
      refine blk 7 [(.iload_n 2, 0, 0, 0)] [] (by decide +kernel) rfl (pc' := 33) (ls' := [some (.ref 72), some (.int S), some (.int (psum (fun a => hb S a) i)), some (.int (nI i))]) (st' := [.int (psum (fun a => hb S a) i)]) (M' := M) rfl ⟨trivial, trivial⟩ ?_
      have e : i = 5 := by omega
      subst e
      exact g_ireturn (by decide +kernel) rfl rfl ⟨rfl, rfl⟩
    · have nc1 : i < 5 := by
        have z : ¬ nI 5 ≤ nI i := by simpa only [nI_add, pk_mul, nI_s1, n0_lit] using c1
        rw [nI_leI (by omega) (by omega)] at z
        omega
      refine blk 7 [(.iload_n 2, 0, 0, 0), (.aload_n 0, 0, 0, 0), (.iload_n 1, 0, 0, 0), (.iload_n 3, 0, 0, 0)] [] (by decide +kernel) rfl (pc' := 13) (ls' := [some (.ref 72), some (.int S), some (.int (psum (fun a => hb S a) i)), some (.int (nI i))]) (st' := [.int (nI i), .int S, .ref 72, .int (psum (fun a => hb S a) i)]) (M' := M) rfl ⟨trivial, trivial, trivial, trivial, trivial⟩ ?_
      refine g_callV (s_isIn M S i) ok_X7_countOf_X7_isIn (by decide +kernel) rfl (c := 7) rfl (by decide) rfl (Nat.le_of_ble_eq_true rfl) (fun r M' h => ?_) rfl
      obtain ⟨hr, hM⟩ := h
      rw [hr, hM]
      show G _ 16 [some (.ref 72), some (.int S), some (.int (psum (fun a => hb S a) i)), some (.int (nI i))] [.int (hb S i), .int (psum (fun a => hb S a) i)] M _
      refine g_if_eq (off := 7) (tgt := 23) (by decide +kernel) (by decide) (fun c2 => ?_) (fun c2 => ?_)
      · refine blk 7 [(.iconst 0, 0, 0, (nI 0)), (.iadd, 0, 0, 0), (.istore_n 2, 0, 0, 0), (.iinc 3 1, 0, 0, (nI 1)), (.goto (-25), 4, 0, 0)] [] (by decide +kernel) rfl (pc' := 4) (ls' := [some (.ref 72), some (.int S), some (.int ((psum (fun a => hb S a) i) + (nI 0))), some (.int (nI i + nI 1))]) (st' := []) (M' := M) rfl ⟨trivial, trivial, trivial, trivial, trivial, trivial⟩ ?_
        have e : psum (fun a => hb S a) (i + 1) = (psum (fun a => hb S a) i) + (nI 0) := by
          rw [psum]; congr 1; try (rw [c2]; done)
        refine G.sub (ls' := [some (.ref 72), some (.int S), some (.int (psum (fun a => hb S a) (i + 1))), some (.int (nI (i + 1)))]) ?_ ⟨rfl, rfl, congrArg (fun z => some (Value.int z)) e.symm, congrArg (fun z => some (Value.int z)) (by simp only [nI_add, nI_s1]), trivial⟩
        exact ih (d - 1) (by omega) (i + 1) (by omega) (by omega)
      · refine blk 7 [(.iconst 1, 0, 0, (nI 1)), (.goto (4), 24, 0, 0), (.iadd, 0, 0, 0), (.istore_n 2, 0, 0, 0), (.iinc 3 1, 0, 0, (nI 1)), (.goto (-25), 4, 0, 0)] [] (by decide +kernel) rfl (pc' := 4) (ls' := [some (.ref 72), some (.int S), some (.int ((psum (fun a => hb S a) i) + (nI 1))), some (.int (nI i + nI 1))]) (st' := []) (M' := M) rfl ⟨trivial, trivial, trivial, trivial, trivial, trivial, trivial⟩ ?_
        have e : psum (fun a => hb S a) (i + 1) = (psum (fun a => hb S a) i) + (nI 1) := by
          rw [psum]; congr 1; rw [(hb_01 S i).resolve_left c2]; try exact n1_lit.symm
        refine G.sub (ls' := [some (.ref 72), some (.int S), some (.int (psum (fun a => hb S a) (i + 1))), some (.int (nI (i + 1)))]) ?_ ⟨rfl, rfl, congrArg (fun z => some (Value.int z)) e.symm, congrArg (fun z => some (Value.int z)) (by simp only [nI_add, nI_s1]), trivial⟩
        exact ih (d - 1) (by omega) (i + 1) (by omega) (by omega)
theorem s_count (M : Mem) (S : Int32) : Spec mX7_countOf [.ref 72, .int S] M (Ret (psum (fun a => hb S a) 5) M) := by
  refine Spec.of (by decide) (by simp [Value.category]) (Nat.le_of_ble_eq_true rfl) ?_
  refine blk 7 [(.iconst 0, 0, 0, (nI 0)), (.istore_n 2, 0, 0, 0), (.iconst 0, 0, 0, (nI 0)), (.istore_n 3, 0, 0, 0)] [] (by decide +kernel) rfl (pc' := 4) (ls' := [some (.ref 72), some (.int S), some (.int (nI 0)), some (.int (nI 0))]) (st' := []) (M' := M) rfl ⟨trivial, trivial, trivial, trivial, trivial⟩ ?_
  exact l_count _ 0 rfl (by omega)
theorem l_use {M : Mem} {n : Nat} (hn0 : M 72 0 = nI n) (hn5 : n ≤ 5) : ∀ d i N, d = 5 - i → i ≤ 5 → (∀ a, a < i → N 39 a = if a < n then M 88 a else 1) → (∀ z, z ≠ 39 → N z = M z) → G mX7_useWeights 2 [some (.ref 72), some (.int (nI i))] [] N (fun r N => r = none ∧ (∀ a, a < 5 → N 39 a = if a < n then M 88 a else 1) ∧ ∀ z, z ≠ 39 → N z = M z) := by
  intro d
  induction d using Nat.strongRecOn with
  | ind d ih =>
    intro i N hd hi j1 j2
    have hn : N 72 0 = nI n := by rw [j2 72 (by decide)]; exact hn0
    refine blk 7 [(.iload_n 1, 0, 0, 0), (.iconst 5, 0, 0, (nI 5))] [] (by decide +kernel) rfl (pc' := 4) (ls' := [some (.ref 72), some (.int (nI i))]) (st' := [.int (nI 5), .int (nI i)]) (M' := N) rfl ⟨trivial, trivial, trivial⟩ ?_
    refine g_icmp_ge (off := 33) (tgt := 37) (by decide +kernel) (by decide) (fun c1 => ?_) (fun c1 => ?_)
    · have nc1 : 5 ≤ i := (nI_leI (by omega) (by omega)).mp (by simpa only [hn, nI_add, pk_mul, nI_s1, n0_lit] using c1)
      have e : i = 5 := by omega
      subst e
      exact g_return (by decide +kernel) rfl ⟨rfl, j1, j2⟩
    · have nc1 : i < 5 := by
        have z : ¬ nI 5 ≤ nI i := by simpa only [hn, nI_add, pk_mul, nI_s1, n0_lit] using c1
        rw [nI_leI (by omega) (by omega)] at z
        omega
      refine blk 7 [(.aload_n 0, 0, 0, 0), (.getfield 86, 7, 37, 0), (.iload_n 1, 0, 0, 0), (.iload_n 1, 0, 0, 0), (.aload_n 0, 0, 0, 0), (.getfield 103, 7, 0, 0)] [] (by decide +kernel) rfl (pc' := 17) (ls' := [some (.ref 72), some (.int (nI i))]) (st' := [.int (N 72 0), .int (nI i), .int (nI i), .ref 39]) (M' := N) rfl ⟨trivial, rfl, trivial, trivial, trivial, rfl, trivial⟩ ?_
      refine g_icmp_ge (off := 12) (tgt := 29) (by decide +kernel) (by decide) (fun c2 => ?_) (fun c2 => ?_)
      · have nc2 : n ≤ i := (nI_leI (by omega) (by omega)).mp (by simpa only [hn, nI_add, pk_mul, nI_s1, n0_lit] using c2)
        refine blk 7 [(.iconst 1, 0, 0, (nI 1)), (.iastore, 0, 0, 0), (.iinc 1 1, 0, 0, (nI 1)), (.goto (-32), 2, 0, 0)] [i] (by decide +kernel) rfl (pc' := 2) (ls' := [some (.ref 72), some (.int (nI i + nI 1))]) (st' := []) (M' := stm N 39 i (nI 1)) rfl ⟨trivial, ⟨rfl, (by show _ < 5; omega), by decide⟩, trivial, trivial, trivial⟩ ?_
        refine G.sub (ls' := [some (.ref 72), some (.int (nI (i + 1)))]) ?_ ⟨rfl, congrArg (fun z => some (Value.int z)) (by simp only [nI_add, nI_s1]), trivial⟩
        refine ih (d - 1) (by omega) (i + 1) _ (by omega) (by omega) (fun a ha => ?_) (fun z hz => by rw [stm_ne hz]; exact j2 z hz)
        by_cases e : a = i
        · subst e; rw [stm_self, if_neg (by omega)]; exact n1_lit
        · rw [stm_off e]; exact j1 a (by omega)
      · have nc2 : i < n := by
          have z : ¬ nI n ≤ nI i := by simpa only [hn, nI_add, pk_mul, nI_s1, n0_lit] using c2
          rw [nI_leI (by omega) (by omega)] at z
          omega
        refine blk 7 [(.aload_n 0, 0, 0, 0), (.getfield 59, 7, 22, 0), (.iload_n 1, 0, 0, 0), (.iaload, 0, 0, 0), (.goto (4), 30, 0, 0), (.iastore, 0, 0, 0), (.iinc 1 1, 0, 0, (nI 1)), (.goto (-32), 2, 0, 0)] [i, i] (by decide +kernel) rfl (pc' := 2) (ls' := [some (.ref 72), some (.int (nI i + nI 1))]) (st' := []) (M' := stm N 39 i (N 88 i)) rfl ⟨trivial, rfl, trivial, ⟨rfl, (by show _ < 5; omega)⟩, trivial, ⟨rfl, (by show _ < 5; omega), by decide⟩, trivial, trivial, trivial⟩ ?_
        refine G.sub (ls' := [some (.ref 72), some (.int (nI (i + 1)))]) ?_ ⟨rfl, congrArg (fun z => some (Value.int z)) (by simp only [nI_add, nI_s1]), trivial⟩
        refine ih (d - 1) (by omega) (i + 1) _ (by omega) (by omega) (fun a ha => ?_) (fun z hz => by rw [stm_ne hz]; exact j2 z hz)
        by_cases e : a = i
        · subst e; rw [stm_self, if_pos nc2, j2 88 (by decide)]
        · rw [stm_off e]; exact j1 a (by omega)
theorem s_use (M : Mem) {n : Nat} (hn : M 72 0 = nI n) (hn5 : n ≤ 5) : Spec mX7_useWeights [.ref 72] M (fun r N => r = none ∧ (∀ a, a < 5 → N 39 a = if a < n then M 88 a else 1) ∧ ∀ z, z ≠ 39 → N z = M z) := by
  refine Spec.of (by decide) (by simp [Value.category]) (Nat.le_of_ble_eq_true rfl) ?_
  refine blk 7 [(.iconst 0, 0, 0, (nI 0)), (.istore_n 1, 0, 0, 0)] [] (by decide +kernel) rfl (pc' := 2) (ls' := [some (.ref 72), some (.int (nI 0))]) (st' := []) (M' := M) rfl ⟨trivial, trivial, trivial⟩ ?_
  exact l_use hn hn5 _ 0 M rfl (by omega) (fun a h => absurd h (by omega)) (fun _ _ => rfl)
def innM (L W i : Int32) : Bool := decide (¬ L = 0 ∧ ¬ i < W ∧ ¬ nI 2 * W - nI 2 < i)
theorem s_misInner (M : Mem) (i : Int32) : Spec mX7_isInner [.ref 72, .int i] M (Ret (bI (innM (M 72 11) (M 72 0) i)) M) := by
  refine Spec.of (by decide) (by simp [Value.category]) (Nat.le_of_ble_eq_true rfl) ?_
  refine blk 7 [(.aload_n 0, 0, 0, 0), (.getfield 89, 7, 11, 0)] [] (by decide +kernel) rfl (pc' := 4) (ls' := [some (.ref 72), some (.int i)]) (st' := [.int (M 72 11)]) (M' := M) rfl ⟨trivial, rfl, trivial⟩ ?_
  refine g_if_eq (off := 27) (tgt := 31) (by decide +kernel) (by decide) (fun c1 => ?_) (fun c1 => ?_)
  · refine blk 7 [(.iconst 0, 0, 0, (nI 0))] [] (by decide +kernel) rfl (pc' := 32) (ls' := [some (.ref 72), some (.int i)]) (st' := [.int (nI 0)]) (M' := M) rfl ⟨trivial, trivial⟩ ?_
    refine g_ireturn (by decide +kernel) rfl (by decide +kernel) ⟨?_, rfl⟩
    rw [show innM (M 72 11) (M 72 0) i = false from decide_eq_false (fun z => by first | exact z.1 c1 | exact z.2.1 c2 | exact z.2.2 c3)]; rfl
  · refine blk 7 [(.iload_n 1, 0, 0, 0), (.aload_n 0, 0, 0, 0), (.getfield 103, 7, 0, 0)] [] (by decide +kernel) rfl (pc' := 12) (ls' := [some (.ref 72), some (.int i)]) (st' := [.int (M 72 0), .int i]) (M' := M) rfl ⟨trivial, trivial, rfl, trivial⟩ ?_
    refine g_icmp_lt (off := 19) (tgt := 31) (by decide +kernel) (by decide) (fun c2 => ?_) (fun c2 => ?_)
    · refine blk 7 [(.iconst 0, 0, 0, (nI 0))] [] (by decide +kernel) rfl (pc' := 32) (ls' := [some (.ref 72), some (.int i)]) (st' := [.int (nI 0)]) (M' := M) rfl ⟨trivial, trivial⟩ ?_
      refine g_ireturn (by decide +kernel) rfl (by decide +kernel) ⟨?_, rfl⟩
      rw [show innM (M 72 11) (M 72 0) i = false from decide_eq_false (fun z => by first | exact z.1 c1 | exact z.2.1 c2 | exact z.2.2 c3)]; rfl
    · refine blk 7 [(.iload_n 1, 0, 0, 0), (.iconst 2, 0, 0, (nI 2)), (.aload_n 0, 0, 0, 0), (.getfield 103, 7, 0, 0), (.imul, 0, 0, 0), (.iconst 2, 0, 0, (nI 2)), (.isub, 0, 0, 0)] [] (by decide +kernel) rfl (pc' := 24) (ls' := [some (.ref 72), some (.int i)]) (st' := [.int (((nI 2) * (M 72 0)) - (nI 2)), .int i]) (M' := M) rfl ⟨trivial, trivial, trivial, rfl, trivial, trivial, trivial, trivial⟩ ?_
      refine g_icmp_gt (off := 7) (tgt := 31) (by decide +kernel) (by decide) (fun c3 => ?_) (fun c3 => ?_)
      · refine blk 7 [(.iconst 0, 0, 0, (nI 0))] [] (by decide +kernel) rfl (pc' := 32) (ls' := [some (.ref 72), some (.int i)]) (st' := [.int (nI 0)]) (M' := M) rfl ⟨trivial, trivial⟩ ?_
        refine g_ireturn (by decide +kernel) rfl (by decide +kernel) ⟨?_, rfl⟩
        rw [show innM (M 72 11) (M 72 0) i = false from decide_eq_false (fun z => by first | exact z.1 c1 | exact z.2.1 c2 | exact z.2.2 c3)]; rfl
      · refine blk 7 [(.iconst 1, 0, 0, (nI 1)), (.goto (4), 32, 0, 0)] [] (by decide +kernel) rfl (pc' := 32) (ls' := [some (.ref 72), some (.int i)]) (st' := [.int (nI 1)]) (M' := M) rfl ⟨trivial, trivial, trivial⟩ ?_
        refine g_ireturn (by decide +kernel) rfl (by decide +kernel) ⟨?_, rfl⟩
        rw [show innM (M 72 11) (M 72 0) i = true from decide_eq_true ⟨c1, c2, c3⟩]; rfl
theorem s_mworth1 (M : Mem) {i : Nat} (hi : i < 9) (hin : innM (M 72 11) (M 72 0) (nI i) = true) : Spec mX7_worth [.ref 72, .int (nI i)] M (Ret (M 81 i) M) := by
  refine Spec.of (by decide) (by simp [Value.category]) (Nat.le_of_ble_eq_true rfl) ?_
  refine blk 7 [(.aload_n 0, 0, 0, 0), (.iload_n 1, 0, 0, 0)] [] (by decide +kernel) rfl (pc' := 2) (ls' := [some (.ref 72), some (.int (nI i))]) (st' := [.int (nI i), .ref 72]) (M' := M) rfl ⟨trivial, trivial, trivial⟩ ?_
  refine g_callV (s_misInner _ (nI i)) ok_X7_worth_X7_isInner (by decide +kernel) rfl (c := 7) rfl (by decide) rfl (Nat.le_of_ble_eq_true rfl) (fun r M' h => ?_) rfl
  obtain ⟨hr, hM⟩ := h
  rw [hr, hM]
  show G _ 5 [some (.ref 72), some (.int (nI i))] [.int (bI (innM (M 72 11) (M 72 0) (nI i)))] M _
  refine g_if_eq (off := 12) (tgt := 17) (by decide +kernel) (by decide) (fun c1 => ?_) (fun c1 => ?_)
  · refine blk 7 [(.iconst 0, 0, 0, (nI 0))] [] (by decide +kernel) rfl (pc' := 18) (ls' := [some (.ref 72), some (.int (nI i))]) (st' := [.int (nI 0)]) (M' := M) rfl ⟨trivial, trivial⟩ ?_
    exact absurd (bI_eq c1) (by rw [hin]; decide)
  · refine blk 7 [(.aload_n 0, 0, 0, 0), (.getfield 38, 7, 15, 0), (.iload_n 1, 0, 0, 0), (.iaload, 0, 0, 0), (.goto (4), 18, 0, 0)] [i] (by decide +kernel) rfl (pc' := 18) (ls' := [some (.ref 72), some (.int (nI i))]) (st' := [.int (M 81 i)]) (M' := M) rfl ⟨trivial, rfl, trivial, ⟨rfl, (by show _ < 9; omega)⟩, trivial, trivial⟩ ?_
    exact g_ireturn (by decide +kernel) rfl rfl ⟨rfl, rfl⟩
theorem s_mworth0 (M : Mem) {i : Int32} (hin : innM (M 72 11) (M 72 0) i = false) : Spec mX7_worth [.ref 72, .int i] M (Ret 0 M) := by
  refine Spec.of (by decide) (by simp [Value.category]) (Nat.le_of_ble_eq_true rfl) ?_
  refine blk 7 [(.aload_n 0, 0, 0, 0), (.iload_n 1, 0, 0, 0)] [] (by decide +kernel) rfl (pc' := 2) (ls' := [some (.ref 72), some (.int i)]) (st' := [.int i, .ref 72]) (M' := M) rfl ⟨trivial, trivial, trivial⟩ ?_
  refine g_callV (s_misInner _ i) ok_X7_worth_X7_isInner (by decide +kernel) rfl (c := 7) rfl (by decide) rfl (Nat.le_of_ble_eq_true rfl) (fun r M' h => ?_) rfl
  obtain ⟨hr, hM⟩ := h
  rw [hr, hM]
  show G _ 5 [some (.ref 72), some (.int i)] [.int (bI (innM (M 72 11) (M 72 0) i))] M _
  refine g_if_eq (off := 12) (tgt := 17) (by decide +kernel) (by decide) (fun c1 => ?_) (fun c1 => ?_)
  · refine blk 7 [(.iconst 0, 0, 0, (nI 0))] [] (by decide +kernel) rfl (pc' := 18) (ls' := [some (.ref 72), some (.int i)]) (st' := [.int (nI 0)]) (M' := M) rfl ⟨trivial, trivial⟩ ?_
    exact g_ireturn (by decide +kernel) rfl rfl ⟨rfl, rfl⟩
  · exact absurd (bI_ne c1) (by rw [hin]; decide)
theorem s_mchild1 (M : Mem) {i s : Nat} (hi : i < 9) (hs : s < 2) (hin : innM (M 72 11) (M 72 0) (nI i) = true) : Spec mX7_child [.ref 72, .int (nI i), .int (nI s)] M (Ret (if s = 0 then M 78 i else M 79 i) M) := by
  refine Spec.of (by decide) (by simp [Value.category]) (Nat.le_of_ble_eq_true rfl) ?_
  refine blk 7 [(.aload_n 0, 0, 0, 0), (.iload_n 1, 0, 0, 0)] [] (by decide +kernel) rfl (pc' := 2) (ls' := [some (.ref 72), some (.int (nI i)), some (.int (nI s))]) (st' := [.int (nI i), .ref 72]) (M' := M) rfl ⟨trivial, trivial, trivial⟩ ?_
  refine g_callV (s_misInner _ (nI i)) ok_X7_child_X7_isInner (by decide +kernel) rfl (c := 7) rfl (by decide) rfl (Nat.le_of_ble_eq_true rfl) (fun r M' h => ?_) rfl
  obtain ⟨hr, hM⟩ := h
  rw [hr, hM]
  show G _ 5 [some (.ref 72), some (.int (nI i)), some (.int (nI s))] [.int (bI (innM (M 72 11) (M 72 0) (nI i)))] M _
  refine g_if_eq (off := 12) (tgt := 17) (by decide +kernel) (by decide) (fun c1 => ?_) (fun c1 => ?_)
  · refine blk 7 [(.iconst (-1), 0, 0, (-1))] [] (by decide +kernel) rfl (pc' := 18) (ls' := [some (.ref 72), some (.int (nI i)), some (.int (nI s))]) (st' := [.int (-1)]) (M' := M) rfl ⟨trivial, trivial⟩ ?_
    exfalso
    first | omega | exact absurd (bI_eq c1) (by rw [hin]; decide)
  · refine blk 7 [(.iload_n 2, 0, 0, 0)] [] (by decide +kernel) rfl (pc' := 9) (ls' := [some (.ref 72), some (.int (nI i)), some (.int (nI s))]) (st' := [.int (nI s)]) (M' := M) rfl ⟨trivial, trivial⟩ ?_
    refine g_if_lt (off := 8) (tgt := 17) (by decide +kernel) (by decide) (fun c2 => ?_) (fun c2 => ?_)
    · have nc2 : s < 0 := (nI_ltI (by omega) (by omega)).mp (by simpa only [nI_add, pk_mul, nI_s1, n0_lit] using c2)
      refine blk 7 [(.iconst (-1), 0, 0, (-1))] [] (by decide +kernel) rfl (pc' := 18) (ls' := [some (.ref 72), some (.int (nI i)), some (.int (nI s))]) (st' := [.int (-1)]) (M' := M) rfl ⟨trivial, trivial⟩ ?_
      exfalso
      first | omega | exact absurd (bI_eq c1) (by rw [hin]; decide)
    · have nc2 : 0 ≤ s := by
        have z : ¬ nI s < nI 0 := by simpa only [nI_add, pk_mul, nI_s1, n0_lit] using c2
        rw [nI_ltI (by omega) (by omega)] at z
        omega
      refine blk 7 [(.iload_n 2, 0, 0, 0), (.iconst 1, 0, 0, (nI 1))] [] (by decide +kernel) rfl (pc' := 14) (ls' := [some (.ref 72), some (.int (nI i)), some (.int (nI s))]) (st' := [.int (nI 1), .int (nI s)]) (M' := M) rfl ⟨trivial, trivial, trivial⟩ ?_
      refine g_icmp_le (off := 5) (tgt := 19) (by decide +kernel) (by decide) (fun c3 => ?_) (fun c3 => ?_)
      · have nc3 : s ≤ 1 := (nI_leI (by omega) (by omega)).mp (by simpa only [nI_add, pk_mul, nI_s1, n0_lit] using c3)
        refine blk 7 [(.iload_n 2, 0, 0, 0)] [] (by decide +kernel) rfl (pc' := 20) (ls' := [some (.ref 72), some (.int (nI i)), some (.int (nI s))]) (st' := [.int (nI s)]) (M' := M) rfl ⟨trivial, trivial⟩ ?_
        refine g_if_ne (off := 12) (tgt := 32) (by decide +kernel) (by decide) (fun c4 => ?_) (fun c4 => ?_)
        · have nc4 : s ≠ 0 := by
            have z : ¬ nI s = nI 0 := by simpa only [nI_add, pk_mul, nI_s1, n0_lit] using c4
            rw [nI_eq (by omega) (by omega)] at z
            omega
          refine blk 7 [(.aload_n 0, 0, 0, 0), (.getfield 32, 7, 13, 0), (.iload_n 1, 0, 0, 0), (.iaload, 0, 0, 0)] [i] (by decide +kernel) rfl (pc' := 38) (ls' := [some (.ref 72), some (.int (nI i)), some (.int (nI s))]) (st' := [.int (M 79 i)]) (M' := M) rfl ⟨trivial, rfl, trivial, ⟨rfl, (by show _ < 9; omega)⟩, trivial⟩ ?_
          exact g_ireturn (by decide +kernel) rfl rfl ⟨by simp [*], rfl⟩
        · have nc4 : s = 0 := (nI_eq (by omega) (by omega)).mp (by simpa only [nI_add, pk_mul, nI_s1, n0_lit] using c4)
          refine blk 7 [(.aload_n 0, 0, 0, 0), (.getfield 29, 7, 12, 0), (.iload_n 1, 0, 0, 0), (.iaload, 0, 0, 0), (.goto (9), 38, 0, 0)] [i] (by decide +kernel) rfl (pc' := 38) (ls' := [some (.ref 72), some (.int (nI i)), some (.int (nI s))]) (st' := [.int (M 78 i)]) (M' := M) rfl ⟨trivial, rfl, trivial, ⟨rfl, (by show _ < 9; omega)⟩, trivial, trivial⟩ ?_
          exact g_ireturn (by decide +kernel) rfl rfl ⟨by simp [*], rfl⟩
      · have nc3 : 1 < s := by
          have z : ¬ nI s ≤ nI 1 := by simpa only [nI_add, pk_mul, nI_s1, n0_lit] using c3
          rw [nI_leI (by omega) (by omega)] at z
          omega
        refine blk 7 [(.iconst (-1), 0, 0, (-1))] [] (by decide +kernel) rfl (pc' := 18) (ls' := [some (.ref 72), some (.int (nI i)), some (.int (nI s))]) (st' := [.int (-1)]) (M' := M) rfl ⟨trivial, trivial⟩ ?_
        exfalso
        first | omega | exact absurd (bI_eq c1) (by rw [hin]; decide)
theorem s_mchild0 (M : Mem) {i s : Int32} (hno : ¬ (innM (M 72 11) (M 72 0) i = true ∧ ¬ s < 0 ∧ s ≤ nI 1)) : Spec mX7_child [.ref 72, .int i, .int s] M (Ret (-1) M) := by
  refine Spec.of (by decide) (by simp [Value.category]) (Nat.le_of_ble_eq_true rfl) ?_
  refine blk 7 [(.aload_n 0, 0, 0, 0), (.iload_n 1, 0, 0, 0)] [] (by decide +kernel) rfl (pc' := 2) (ls' := [some (.ref 72), some (.int i), some (.int s)]) (st' := [.int i, .ref 72]) (M' := M) rfl ⟨trivial, trivial, trivial⟩ ?_
  refine g_callV (s_misInner _ i) ok_X7_child_X7_isInner (by decide +kernel) rfl (c := 7) rfl (by decide) rfl (Nat.le_of_ble_eq_true rfl) (fun r M' h => ?_) rfl
  obtain ⟨hr, hM⟩ := h
  rw [hr, hM]
  show G _ 5 [some (.ref 72), some (.int i), some (.int s)] [.int (bI (innM (M 72 11) (M 72 0) i))] M _
  refine g_if_eq (off := 12) (tgt := 17) (by decide +kernel) (by decide) (fun c1 => ?_) (fun c1 => ?_)
  · refine blk 7 [(.iconst (-1), 0, 0, (-1))] [] (by decide +kernel) rfl (pc' := 18) (ls' := [some (.ref 72), some (.int i), some (.int s)]) (st' := [.int (-1)]) (M' := M) rfl ⟨trivial, trivial⟩ ?_
    exact g_ireturn (by decide +kernel) rfl rfl ⟨rfl, rfl⟩
  · refine blk 7 [(.iload_n 2, 0, 0, 0)] [] (by decide +kernel) rfl (pc' := 9) (ls' := [some (.ref 72), some (.int i), some (.int s)]) (st' := [.int s]) (M' := M) rfl ⟨trivial, trivial⟩ ?_
    refine g_if_lt (off := 8) (tgt := 17) (by decide +kernel) (by decide) (fun c2 => ?_) (fun c2 => ?_)
    · refine blk 7 [(.iconst (-1), 0, 0, (-1))] [] (by decide +kernel) rfl (pc' := 18) (ls' := [some (.ref 72), some (.int i), some (.int s)]) (st' := [.int (-1)]) (M' := M) rfl ⟨trivial, trivial⟩ ?_
      exact g_ireturn (by decide +kernel) rfl rfl ⟨rfl, rfl⟩
    · refine blk 7 [(.iload_n 2, 0, 0, 0), (.iconst 1, 0, 0, (nI 1))] [] (by decide +kernel) rfl (pc' := 14) (ls' := [some (.ref 72), some (.int i), some (.int s)]) (st' := [.int (nI 1), .int s]) (M' := M) rfl ⟨trivial, trivial, trivial⟩ ?_
      refine g_icmp_le (off := 5) (tgt := 19) (by decide +kernel) (by decide) (fun c3 => ?_) (fun c3 => ?_)
      · exact absurd ⟨bI_ne c1, c2, c3⟩ hno
      · refine blk 7 [(.iconst (-1), 0, 0, (-1))] [] (by decide +kernel) rfl (pc' := 18) (ls' := [some (.ref 72), some (.int i), some (.int s)]) (st' := [.int (-1)]) (M' := M) rfl ⟨trivial, trivial⟩ ?_
        exact g_ireturn (by decide +kernel) rfl rfl ⟨rfl, rfl⟩
theorem s_mweight1 (M : Mem) {i n : Nat} (hn : M 72 0 = nI n) (hn5 : n ≤ 5) (hi : i < n) (hl : ¬ M 72 11 = 0) : Spec mX7_weight [.ref 72, .int (nI i)] M (Ret (M 88 i) M) := by
  refine Spec.of (by decide) (by simp [Value.category]) (Nat.le_of_ble_eq_true rfl) ?_
  refine blk 7 [(.aload_n 0, 0, 0, 0), (.getfield 89, 7, 11, 0)] [] (by decide +kernel) rfl (pc' := 4) (ls' := [some (.ref 72), some (.int (nI i))]) (st' := [.int (M 72 11)]) (M' := M) rfl ⟨trivial, rfl, trivial⟩ ?_
  refine g_if_eq (off := 24) (tgt := 28) (by decide +kernel) (by decide) (fun c1 => ?_) (fun c1 => ?_)
  · refine blk 7 [(.iconst 0, 0, 0, (nI 0))] [] (by decide +kernel) rfl (pc' := 29) (ls' := [some (.ref 72), some (.int (nI i))]) (st' := [.int (nI 0)]) (M' := M) rfl ⟨trivial, trivial⟩ ?_
    exfalso
    first | exact hl c1 | omega
  · refine blk 7 [(.iload_n 1, 0, 0, 0)] [] (by decide +kernel) rfl (pc' := 8) (ls' := [some (.ref 72), some (.int (nI i))]) (st' := [.int (nI i)]) (M' := M) rfl ⟨trivial, trivial⟩ ?_
    refine g_if_lt (off := 20) (tgt := 28) (by decide +kernel) (by decide) (fun c2 => ?_) (fun c2 => ?_)
    · have nc2 : i < 0 := (nI_ltI (by omega) (by omega)).mp (by simpa only [hn, nI_add, pk_mul, nI_s1, n0_lit] using c2)
      refine blk 7 [(.iconst 0, 0, 0, (nI 0))] [] (by decide +kernel) rfl (pc' := 29) (ls' := [some (.ref 72), some (.int (nI i))]) (st' := [.int (nI 0)]) (M' := M) rfl ⟨trivial, trivial⟩ ?_
      exfalso
      first | exact hl c1 | omega
    · have nc2 : 0 ≤ i := by
        have z : ¬ nI i < nI 0 := by simpa only [hn, nI_add, pk_mul, nI_s1, n0_lit] using c2
        rw [nI_ltI (by omega) (by omega)] at z
        omega
      refine blk 7 [(.iload_n 1, 0, 0, 0), (.aload_n 0, 0, 0, 0), (.getfield 103, 7, 0, 0)] [] (by decide +kernel) rfl (pc' := 16) (ls' := [some (.ref 72), some (.int (nI i))]) (st' := [.int (M 72 0), .int (nI i)]) (M' := M) rfl ⟨trivial, trivial, rfl, trivial⟩ ?_
      refine g_icmp_ge (off := 12) (tgt := 28) (by decide +kernel) (by decide) (fun c3 => ?_) (fun c3 => ?_)
      · have nc3 : n ≤ i := (nI_leI (by omega) (by omega)).mp (by simpa only [hn, nI_add, pk_mul, nI_s1, n0_lit] using c3)
        refine blk 7 [(.iconst 0, 0, 0, (nI 0))] [] (by decide +kernel) rfl (pc' := 29) (ls' := [some (.ref 72), some (.int (nI i))]) (st' := [.int (nI 0)]) (M' := M) rfl ⟨trivial, trivial⟩ ?_
        exfalso
        first | exact hl c1 | omega
      · have nc3 : i < n := by
          have z : ¬ nI n ≤ nI i := by simpa only [hn, nI_add, pk_mul, nI_s1, n0_lit] using c3
          rw [nI_leI (by omega) (by omega)] at z
          omega
        refine blk 7 [(.aload_n 0, 0, 0, 0), (.getfield 59, 7, 22, 0), (.iload_n 1, 0, 0, 0), (.iaload, 0, 0, 0), (.goto (4), 29, 0, 0)] [i] (by decide +kernel) rfl (pc' := 29) (ls' := [some (.ref 72), some (.int (nI i))]) (st' := [.int (M 88 i)]) (M' := M) rfl ⟨trivial, rfl, trivial, ⟨rfl, (by show _ < 5; omega)⟩, trivial, trivial⟩ ?_
        exact g_ireturn (by decide +kernel) rfl rfl ⟨rfl, rfl⟩
theorem s_mweight0 (M : Mem) {i : Int32} (hno : ¬ (¬ M 72 11 = 0 ∧ ¬ i < 0 ∧ ¬ M 72 0 ≤ i)) : Spec mX7_weight [.ref 72, .int i] M (Ret 0 M) := by
  refine Spec.of (by decide) (by simp [Value.category]) (Nat.le_of_ble_eq_true rfl) ?_
  refine blk 7 [(.aload_n 0, 0, 0, 0), (.getfield 89, 7, 11, 0)] [] (by decide +kernel) rfl (pc' := 4) (ls' := [some (.ref 72), some (.int i)]) (st' := [.int (M 72 11)]) (M' := M) rfl ⟨trivial, rfl, trivial⟩ ?_
  refine g_if_eq (off := 24) (tgt := 28) (by decide +kernel) (by decide) (fun c1 => ?_) (fun c1 => ?_)
  · refine blk 7 [(.iconst 0, 0, 0, (nI 0))] [] (by decide +kernel) rfl (pc' := 29) (ls' := [some (.ref 72), some (.int i)]) (st' := [.int (nI 0)]) (M' := M) rfl ⟨trivial, trivial⟩ ?_
    exact g_ireturn (by decide +kernel) rfl rfl ⟨rfl, rfl⟩
  · refine blk 7 [(.iload_n 1, 0, 0, 0)] [] (by decide +kernel) rfl (pc' := 8) (ls' := [some (.ref 72), some (.int i)]) (st' := [.int i]) (M' := M) rfl ⟨trivial, trivial⟩ ?_
    refine g_if_lt (off := 20) (tgt := 28) (by decide +kernel) (by decide) (fun c2 => ?_) (fun c2 => ?_)
    · refine blk 7 [(.iconst 0, 0, 0, (nI 0))] [] (by decide +kernel) rfl (pc' := 29) (ls' := [some (.ref 72), some (.int i)]) (st' := [.int (nI 0)]) (M' := M) rfl ⟨trivial, trivial⟩ ?_
      exact g_ireturn (by decide +kernel) rfl rfl ⟨rfl, rfl⟩
    · refine blk 7 [(.iload_n 1, 0, 0, 0), (.aload_n 0, 0, 0, 0), (.getfield 103, 7, 0, 0)] [] (by decide +kernel) rfl (pc' := 16) (ls' := [some (.ref 72), some (.int i)]) (st' := [.int (M 72 0), .int i]) (M' := M) rfl ⟨trivial, trivial, rfl, trivial⟩ ?_
      refine g_icmp_ge (off := 12) (tgt := 28) (by decide +kernel) (by decide) (fun c3 => ?_) (fun c3 => ?_)
      · refine blk 7 [(.iconst 0, 0, 0, (nI 0))] [] (by decide +kernel) rfl (pc' := 29) (ls' := [some (.ref 72), some (.int i)]) (st' := [.int (nI 0)]) (M' := M) rfl ⟨trivial, trivial⟩ ?_
        exact g_ireturn (by decide +kernel) rfl rfl ⟨rfl, rfl⟩
      · exact absurd ⟨c1, c2, c3⟩ hno
theorem chr_nar (x : Int32) : narrow .char (.int (chrF x)) = .int (chrF x) := by
  unfold chrF; repeat' split
  all_goals decide +kernel
theorem s_mat1 (M : Mem) {i k n W : Nat} (hn : M 72 0 = nI n) (hn5 : n ≤ 5) (hi : i < n) (hl : ¬ M 72 11 = 0) (hW : M 72 23 = nI W) (hW6 : W ≤ 60) (hk : k < W) : Spec mX7_at [.ref 72, .int (nI i), .int (nI k)] M (Ret (chrF (M 89 (60 * i + k))) M) := by
  refine Spec.of (by decide) (by simp [Value.category]) (Nat.le_of_ble_eq_true rfl) ?_
  refine blk 7 [(.aload_n 0, 0, 0, 0), (.getfield 89, 7, 11, 0)] [] (by decide +kernel) rfl (pc' := 4) (ls' := [some (.ref 72), some (.int (nI i)), some (.int (nI k)), none]) (st' := [.int (M 72 11)]) (M' := M) rfl ⟨trivial, rfl, trivial⟩ ?_
  refine g_if_eq (off := 31) (tgt := 35) (by decide +kernel) (by decide) (fun c1 => ?_) (fun c1 => ?_)
  · refine blk 7 [(.iconst 0, 0, 0, (nI 0)), (.istore_n 3, 0, 0, 0), (.iload_n 3, 0, 0, 0)] [] (by decide +kernel) rfl (pc' := 38) (ls' := [some (.ref 72), some (.int (nI i)), some (.int (nI k)), some (.int (nI 0))]) (st' := [.int (nI 0)]) (M' := M) rfl ⟨trivial, trivial, trivial, trivial⟩ ?_
    refine g_if_eq (off := 20) (tgt := 58) (by decide +kernel) (by decide) (fun c2 => ?_) (fun c2 => ?_)
    · refine blk 7 [(.bipush 32, 0, 0, (nI 32))] [] (by decide +kernel) rfl (pc' := 60) (ls' := [some (.ref 72), some (.int (nI i)), some (.int (nI k)), some (.int (nI 0))]) (st' := [.int (nI 32)]) (M' := M) rfl ⟨trivial, trivial⟩ ?_
      exfalso
      first | exact hl c1 | omega
    · exact absurd (by decide +kernel) c2
  · refine blk 7 [(.iload_n 1, 0, 0, 0)] [] (by decide +kernel) rfl (pc' := 8) (ls' := [some (.ref 72), some (.int (nI i)), some (.int (nI k)), none]) (st' := [.int (nI i)]) (M' := M) rfl ⟨trivial, trivial⟩ ?_
    refine g_if_lt (off := 27) (tgt := 35) (by decide +kernel) (by decide) (fun c3 => ?_) (fun c3 => ?_)
    · have nc3 : i < 0 := (nI_ltI (by omega) (by omega)).mp (by simpa only [hn, hW, nI_add, pk_mul, nI_s1, n0_lit] using c3)
      refine blk 7 [(.iconst 0, 0, 0, (nI 0)), (.istore_n 3, 0, 0, 0), (.iload_n 3, 0, 0, 0)] [] (by decide +kernel) rfl (pc' := 38) (ls' := [some (.ref 72), some (.int (nI i)), some (.int (nI k)), some (.int (nI 0))]) (st' := [.int (nI 0)]) (M' := M) rfl ⟨trivial, trivial, trivial, trivial⟩ ?_
      refine g_if_eq (off := 20) (tgt := 58) (by decide +kernel) (by decide) (fun c4 => ?_) (fun c4 => ?_)
      · refine blk 7 [(.bipush 32, 0, 0, (nI 32))] [] (by decide +kernel) rfl (pc' := 60) (ls' := [some (.ref 72), some (.int (nI i)), some (.int (nI k)), some (.int (nI 0))]) (st' := [.int (nI 32)]) (M' := M) rfl ⟨trivial, trivial⟩ ?_
        exfalso
        first | exact hl c1 | omega
      · exact absurd (by decide +kernel) c4
    · have nc3 : 0 ≤ i := by
        have z : ¬ nI i < nI 0 := by simpa only [hn, hW, nI_add, pk_mul, nI_s1, n0_lit] using c3
        rw [nI_ltI (by omega) (by omega)] at z
        omega
      refine blk 7 [(.iload_n 1, 0, 0, 0), (.aload_n 0, 0, 0, 0), (.getfield 103, 7, 0, 0)] [] (by decide +kernel) rfl (pc' := 16) (ls' := [some (.ref 72), some (.int (nI i)), some (.int (nI k)), none]) (st' := [.int (M 72 0), .int (nI i)]) (M' := M) rfl ⟨trivial, trivial, rfl, trivial⟩ ?_
      refine g_icmp_ge (off := 19) (tgt := 35) (by decide +kernel) (by decide) (fun c5 => ?_) (fun c5 => ?_)
      · have nc5 : n ≤ i := (nI_leI (by omega) (by omega)).mp (by simpa only [hn, hW, nI_add, pk_mul, nI_s1, n0_lit] using c5)
        refine blk 7 [(.iconst 0, 0, 0, (nI 0)), (.istore_n 3, 0, 0, 0), (.iload_n 3, 0, 0, 0)] [] (by decide +kernel) rfl (pc' := 38) (ls' := [some (.ref 72), some (.int (nI i)), some (.int (nI k)), some (.int (nI 0))]) (st' := [.int (nI 0)]) (M' := M) rfl ⟨trivial, trivial, trivial, trivial⟩ ?_
        refine g_if_eq (off := 20) (tgt := 58) (by decide +kernel) (by decide) (fun c6 => ?_) (fun c6 => ?_)
        · refine blk 7 [(.bipush 32, 0, 0, (nI 32))] [] (by decide +kernel) rfl (pc' := 60) (ls' := [some (.ref 72), some (.int (nI i)), some (.int (nI k)), some (.int (nI 0))]) (st' := [.int (nI 32)]) (M' := M) rfl ⟨trivial, trivial⟩ ?_
          exfalso
          first | exact hl c1 | omega
        · exact absurd (by decide +kernel) c6
      · have nc5 : i < n := by
          have z : ¬ nI n ≤ nI i := by simpa only [hn, hW, nI_add, pk_mul, nI_s1, n0_lit] using c5
          rw [nI_leI (by omega) (by omega)] at z
          omega
        refine blk 7 [(.iload_n 2, 0, 0, 0)] [] (by decide +kernel) rfl (pc' := 20) (ls' := [some (.ref 72), some (.int (nI i)), some (.int (nI k)), none]) (st' := [.int (nI k)]) (M' := M) rfl ⟨trivial, trivial⟩ ?_
        refine g_if_lt (off := 15) (tgt := 35) (by decide +kernel) (by decide) (fun c7 => ?_) (fun c7 => ?_)
        · have nc7 : k < 0 := (nI_ltI (by omega) (by omega)).mp (by simpa only [hn, hW, nI_add, pk_mul, nI_s1, n0_lit] using c7)
          refine blk 7 [(.iconst 0, 0, 0, (nI 0)), (.istore_n 3, 0, 0, 0), (.iload_n 3, 0, 0, 0)] [] (by decide +kernel) rfl (pc' := 38) (ls' := [some (.ref 72), some (.int (nI i)), some (.int (nI k)), some (.int (nI 0))]) (st' := [.int (nI 0)]) (M' := M) rfl ⟨trivial, trivial, trivial, trivial⟩ ?_
          refine g_if_eq (off := 20) (tgt := 58) (by decide +kernel) (by decide) (fun c8 => ?_) (fun c8 => ?_)
          · refine blk 7 [(.bipush 32, 0, 0, (nI 32))] [] (by decide +kernel) rfl (pc' := 60) (ls' := [some (.ref 72), some (.int (nI i)), some (.int (nI k)), some (.int (nI 0))]) (st' := [.int (nI 32)]) (M' := M) rfl ⟨trivial, trivial⟩ ?_
            exfalso
            first | exact hl c1 | omega
          · exact absurd (by decide +kernel) c8
        · have nc7 : 0 ≤ k := by
            have z : ¬ nI k < nI 0 := by simpa only [hn, hW, nI_add, pk_mul, nI_s1, n0_lit] using c7
            rw [nI_ltI (by omega) (by omega)] at z
            omega
          refine blk 7 [(.iload_n 2, 0, 0, 0), (.aload_n 0, 0, 0, 0), (.getfield 93, 7, 23, 0)] [] (by decide +kernel) rfl (pc' := 28) (ls' := [some (.ref 72), some (.int (nI i)), some (.int (nI k)), none]) (st' := [.int (M 72 23), .int (nI k)]) (M' := M) rfl ⟨trivial, trivial, rfl, trivial⟩ ?_
          refine g_icmp_ge (off := 7) (tgt := 35) (by decide +kernel) (by decide) (fun c9 => ?_) (fun c9 => ?_)
          · have nc9 : W ≤ k := (nI_leI (by omega) (by omega)).mp (by simpa only [hn, hW, nI_add, pk_mul, nI_s1, n0_lit] using c9)
            refine blk 7 [(.iconst 0, 0, 0, (nI 0)), (.istore_n 3, 0, 0, 0), (.iload_n 3, 0, 0, 0)] [] (by decide +kernel) rfl (pc' := 38) (ls' := [some (.ref 72), some (.int (nI i)), some (.int (nI k)), some (.int (nI 0))]) (st' := [.int (nI 0)]) (M' := M) rfl ⟨trivial, trivial, trivial, trivial⟩ ?_
            refine g_if_eq (off := 20) (tgt := 58) (by decide +kernel) (by decide) (fun c10 => ?_) (fun c10 => ?_)
            · refine blk 7 [(.bipush 32, 0, 0, (nI 32))] [] (by decide +kernel) rfl (pc' := 60) (ls' := [some (.ref 72), some (.int (nI i)), some (.int (nI k)), some (.int (nI 0))]) (st' := [.int (nI 32)]) (M' := M) rfl ⟨trivial, trivial⟩ ?_
              exfalso
              first | exact hl c1 | omega
            · exact absurd (by decide +kernel) c10
          · have nc9 : k < W := by
              have z : ¬ nI W ≤ nI k := by simpa only [hn, hW, nI_add, pk_mul, nI_s1, n0_lit] using c9
              rw [nI_leI (by omega) (by omega)] at z
              omega
            refine blk 7 [(.iconst 1, 0, 0, (nI 1)), (.goto (4), 36, 0, 0), (.istore_n 3, 0, 0, 0), (.iload_n 3, 0, 0, 0)] [] (by decide +kernel) rfl (pc' := 38) (ls' := [some (.ref 72), some (.int (nI i)), some (.int (nI k)), some (.int (nI 1))]) (st' := [.int (nI 1)]) (M' := M) rfl ⟨trivial, trivial, trivial, trivial, trivial⟩ ?_
            refine g_if_eq (off := 20) (tgt := 58) (by decide +kernel) (by decide) (fun c11 => ?_) (fun c11 => ?_)
            · exact absurd c11 (by decide +kernel)
            · refine blk 7 [(.aload_n 0, 0, 0, 0), (.getfield 62, 7, 24, 0), (.bipush 60, 0, 0, (nI 60)), (.iload_n 1, 0, 0, 0), (.imul, 0, 0, 0), (.iload_n 2, 0, 0, 0), (.iadd, 0, 0, 0), (.iaload, 0, 0, 0)] [60 * i + k] (by decide +kernel) rfl (pc' := 52) (ls' := [some (.ref 72), some (.int (nI i)), some (.int (nI k)), some (.int (nI 1))]) (st' := [.int (M 89 (60 * i + k))]) (M' := M) rfl ⟨trivial, rfl, trivial, trivial, trivial, trivial, trivial, ⟨(by simp only [hn, hW, nI_add, pk_mul, nI_s1, Nat.reduceAdd, Nat.reduceMul]), (by show _ < 300; omega)⟩, trivial⟩ ?_
              refine g_callS (s_mletterOf _ (M 89 (60 * i + k))) ok_X7_at_X7_letterOf (by decide +kernel) rfl (Nat.le_of_ble_eq_true rfl) (fun r M' h => ?_) rfl
              obtain ⟨hr, hM⟩ := h
              rw [hr, hM]
              show G _ 55 [some (.ref 72), some (.int (nI i)), some (.int (nI k)), some (.int (nI 1))] [.int (chrF (M 89 (60 * i + k)))] M _
              refine blk 7 [(.goto (5), 60, 0, 0)] [] (by decide +kernel) rfl (pc' := 60) (ls' := [some (.ref 72), some (.int (nI i)), some (.int (nI k)), some (.int (nI 1))]) (st' := [.int (chrF (M 89 (60 * i + k)))]) (M' := M) rfl ⟨trivial, trivial⟩ ?_
              exact g_ireturn (by decide +kernel) rfl (chr_nar _) ⟨rfl, rfl⟩
theorem s_mat0 (M : Mem) {i k : Int32} (hno : ¬ (¬ M 72 11 = 0 ∧ ¬ i < 0 ∧ ¬ M 72 0 ≤ i ∧ ¬ k < 0 ∧ ¬ M 72 23 ≤ k)) : Spec mX7_at [.ref 72, .int i, .int k] M (Ret (nI 32) M) := by
  refine Spec.of (by decide) (by simp [Value.category]) (Nat.le_of_ble_eq_true rfl) ?_
  refine blk 7 [(.aload_n 0, 0, 0, 0), (.getfield 89, 7, 11, 0)] [] (by decide +kernel) rfl (pc' := 4) (ls' := [some (.ref 72), some (.int i), some (.int k), none]) (st' := [.int (M 72 11)]) (M' := M) rfl ⟨trivial, rfl, trivial⟩ ?_
  refine g_if_eq (off := 31) (tgt := 35) (by decide +kernel) (by decide) (fun c1 => ?_) (fun c1 => ?_)
  · refine blk 7 [(.iconst 0, 0, 0, (nI 0)), (.istore_n 3, 0, 0, 0), (.iload_n 3, 0, 0, 0)] [] (by decide +kernel) rfl (pc' := 38) (ls' := [some (.ref 72), some (.int i), some (.int k), some (.int (nI 0))]) (st' := [.int (nI 0)]) (M' := M) rfl ⟨trivial, trivial, trivial, trivial⟩ ?_
    refine g_if_eq (off := 20) (tgt := 58) (by decide +kernel) (by decide) (fun c2 => ?_) (fun c2 => ?_)
    · refine blk 7 [(.bipush 32, 0, 0, (nI 32))] [] (by decide +kernel) rfl (pc' := 60) (ls' := [some (.ref 72), some (.int i), some (.int k), some (.int (nI 0))]) (st' := [.int (nI 32)]) (M' := M) rfl ⟨trivial, trivial⟩ ?_
      exact g_ireturn (by decide +kernel) rfl (by decide +kernel) ⟨rfl, rfl⟩
    · exact absurd (by decide +kernel) c2
  · refine blk 7 [(.iload_n 1, 0, 0, 0)] [] (by decide +kernel) rfl (pc' := 8) (ls' := [some (.ref 72), some (.int i), some (.int k), none]) (st' := [.int i]) (M' := M) rfl ⟨trivial, trivial⟩ ?_
    refine g_if_lt (off := 27) (tgt := 35) (by decide +kernel) (by decide) (fun c3 => ?_) (fun c3 => ?_)
    · refine blk 7 [(.iconst 0, 0, 0, (nI 0)), (.istore_n 3, 0, 0, 0), (.iload_n 3, 0, 0, 0)] [] (by decide +kernel) rfl (pc' := 38) (ls' := [some (.ref 72), some (.int i), some (.int k), some (.int (nI 0))]) (st' := [.int (nI 0)]) (M' := M) rfl ⟨trivial, trivial, trivial, trivial⟩ ?_
      refine g_if_eq (off := 20) (tgt := 58) (by decide +kernel) (by decide) (fun c4 => ?_) (fun c4 => ?_)
      · refine blk 7 [(.bipush 32, 0, 0, (nI 32))] [] (by decide +kernel) rfl (pc' := 60) (ls' := [some (.ref 72), some (.int i), some (.int k), some (.int (nI 0))]) (st' := [.int (nI 32)]) (M' := M) rfl ⟨trivial, trivial⟩ ?_
        exact g_ireturn (by decide +kernel) rfl (by decide +kernel) ⟨rfl, rfl⟩
      · exact absurd (by decide +kernel) c4
    · refine blk 7 [(.iload_n 1, 0, 0, 0), (.aload_n 0, 0, 0, 0), (.getfield 103, 7, 0, 0)] [] (by decide +kernel) rfl (pc' := 16) (ls' := [some (.ref 72), some (.int i), some (.int k), none]) (st' := [.int (M 72 0), .int i]) (M' := M) rfl ⟨trivial, trivial, rfl, trivial⟩ ?_
      refine g_icmp_ge (off := 19) (tgt := 35) (by decide +kernel) (by decide) (fun c5 => ?_) (fun c5 => ?_)
      · refine blk 7 [(.iconst 0, 0, 0, (nI 0)), (.istore_n 3, 0, 0, 0), (.iload_n 3, 0, 0, 0)] [] (by decide +kernel) rfl (pc' := 38) (ls' := [some (.ref 72), some (.int i), some (.int k), some (.int (nI 0))]) (st' := [.int (nI 0)]) (M' := M) rfl ⟨trivial, trivial, trivial, trivial⟩ ?_
        refine g_if_eq (off := 20) (tgt := 58) (by decide +kernel) (by decide) (fun c6 => ?_) (fun c6 => ?_)
        · refine blk 7 [(.bipush 32, 0, 0, (nI 32))] [] (by decide +kernel) rfl (pc' := 60) (ls' := [some (.ref 72), some (.int i), some (.int k), some (.int (nI 0))]) (st' := [.int (nI 32)]) (M' := M) rfl ⟨trivial, trivial⟩ ?_
          exact g_ireturn (by decide +kernel) rfl (by decide +kernel) ⟨rfl, rfl⟩
        · exact absurd (by decide +kernel) c6
      · refine blk 7 [(.iload_n 2, 0, 0, 0)] [] (by decide +kernel) rfl (pc' := 20) (ls' := [some (.ref 72), some (.int i), some (.int k), none]) (st' := [.int k]) (M' := M) rfl ⟨trivial, trivial⟩ ?_
        refine g_if_lt (off := 15) (tgt := 35) (by decide +kernel) (by decide) (fun c7 => ?_) (fun c7 => ?_)
        · refine blk 7 [(.iconst 0, 0, 0, (nI 0)), (.istore_n 3, 0, 0, 0), (.iload_n 3, 0, 0, 0)] [] (by decide +kernel) rfl (pc' := 38) (ls' := [some (.ref 72), some (.int i), some (.int k), some (.int (nI 0))]) (st' := [.int (nI 0)]) (M' := M) rfl ⟨trivial, trivial, trivial, trivial⟩ ?_
          refine g_if_eq (off := 20) (tgt := 58) (by decide +kernel) (by decide) (fun c8 => ?_) (fun c8 => ?_)
          · refine blk 7 [(.bipush 32, 0, 0, (nI 32))] [] (by decide +kernel) rfl (pc' := 60) (ls' := [some (.ref 72), some (.int i), some (.int k), some (.int (nI 0))]) (st' := [.int (nI 32)]) (M' := M) rfl ⟨trivial, trivial⟩ ?_
            exact g_ireturn (by decide +kernel) rfl (by decide +kernel) ⟨rfl, rfl⟩
          · exact absurd (by decide +kernel) c8
        · refine blk 7 [(.iload_n 2, 0, 0, 0), (.aload_n 0, 0, 0, 0), (.getfield 93, 7, 23, 0)] [] (by decide +kernel) rfl (pc' := 28) (ls' := [some (.ref 72), some (.int i), some (.int k), none]) (st' := [.int (M 72 23), .int k]) (M' := M) rfl ⟨trivial, trivial, rfl, trivial⟩ ?_
          refine g_icmp_ge (off := 7) (tgt := 35) (by decide +kernel) (by decide) (fun c9 => ?_) (fun c9 => ?_)
          · refine blk 7 [(.iconst 0, 0, 0, (nI 0)), (.istore_n 3, 0, 0, 0), (.iload_n 3, 0, 0, 0)] [] (by decide +kernel) rfl (pc' := 38) (ls' := [some (.ref 72), some (.int i), some (.int k), some (.int (nI 0))]) (st' := [.int (nI 0)]) (M' := M) rfl ⟨trivial, trivial, trivial, trivial⟩ ?_
            refine g_if_eq (off := 20) (tgt := 58) (by decide +kernel) (by decide) (fun c10 => ?_) (fun c10 => ?_)
            · refine blk 7 [(.bipush 32, 0, 0, (nI 32))] [] (by decide +kernel) rfl (pc' := 60) (ls' := [some (.ref 72), some (.int i), some (.int k), some (.int (nI 0))]) (st' := [.int (nI 32)]) (M' := M) rfl ⟨trivial, trivial⟩ ?_
              exact g_ireturn (by decide +kernel) rfl (by decide +kernel) ⟨rfl, rfl⟩
            · exact absurd (by decide +kernel) c10
          · exact absurd ⟨by assumption, by assumption, by assumption, by assumption, by assumption⟩ hno
