/-! the reference's tree: sumOf, spansOf, valueOf -/
def smF (M : Mem) (a b v : Nat) : Nat → Int32 := fun w => if ¬ hb (M 82 a) v = 0 ∧ ¬ hb (M 82 b) w = 0 then M 87 (5 * v + w) else 0
def snF (M : Mem) (a : Nat) : Nat → Int32 := fun x => if x ≠ a ∧ M 80 x < 0 then M 86 (9 * a + x) else 0
theorem l_sumO2 {M : Mem} {n a b v : Nat} {A : Int32} {Post : Option Value → Mem → Prop} (hn : M 72 0 = nI n) (hn5 : n ≤ 5) (ha : a < 9) (hb' : b < 9) (hv : v < n) (hp : G mX7_sumOf 5 [some (.ref 72), some (.int (nI a)), some (.int (nI b)), some (.int (A + psum (smF M a b v) n)), some (.int (nI (v + 1))), none] [] M Post) : ∀ d w, d = n - w → w ≤ n → G mX7_sumOf 17 [some (.ref 72), some (.int (nI a)), some (.int (nI b)), some (.int (A + psum (smF M a b v) w)), some (.int (nI v)), some (.int (nI w))] [] M Post := by
  intro d
  induction d using Nat.strongRecOn with
  | ind d ih =>
    intro w hd hw
    refine blk 7 [(.iload 5, 0, 0, 0), (.aload_n 0, 0, 0, 0), (.getfield 103, 7, 0, 0)] [] (by decide +kernel) rfl (pc' := 23) (ls' := [some (.ref 72), some (.int (nI a)), some (.int (nI b)), some (.int (A + psum (smF M a b v) w)), some (.int (nI v)), some (.int (nI w))]) (st' := [.int (M 72 0), .int (nI w)]) (M' := M) rfl ⟨trivial, trivial, rfl, trivial⟩ ?_
    refine g_icmp_ge (off := 58) (tgt := 81) (by decide +kernel) (by decide) (fun c1 => ?_) (fun c1 => ?_)
    · have nc1 : n ≤ w := (nI_leI (by omega) (by omega)).mp (by simpa only [hn, nI_add, pk_mul, nI_s1, n0_lit] using c1)
      refine blk 7 [(.iinc 4 1, 0, 0, (nI 1)), (.goto (-79), 5, 0, 0)] [] (by decide +kernel) rfl (pc' := 5) (ls' := [some (.ref 72), some (.int (nI a)), some (.int (nI b)), some (.int (A + psum (smF M a b v) w)), some (.int (nI v + nI 1)), some (.int (nI w))]) (st' := []) (M' := M) rfl ⟨trivial, trivial, trivial⟩ ?_
      have e : w = n := by omega
      subst e
      refine G.sub (ls' := [some (.ref 72), some (.int (nI a)), some (.int (nI b)), some (.int (A + psum (smF M a b v) w)), some (.int (nI (v + 1))), none]) ?_ ⟨rfl, rfl, rfl, rfl, congrArg (fun z => some (Value.int z)) (by simp only [nI_add, nI_s1]), trivial⟩
      exact hp
    · have nc1 : w < n := by
        have z : ¬ nI n ≤ nI w := by simpa only [hn, nI_add, pk_mul, nI_s1, n0_lit] using c1
        rw [nI_leI (by omega) (by omega)] at z
        omega
      refine blk 7 [(.iload_n 3, 0, 0, 0), (.aload_n 0, 0, 0, 0), (.aload_n 0, 0, 0, 0), (.getfield 41, 7, 16, 0), (.iload_n 1, 0, 0, 0), (.iaload, 0, 0, 0), (.iload 4, 0, 0, 0)] [a] (by decide +kernel) rfl (pc' := 36) (ls' := [some (.ref 72), some (.int (nI a)), some (.int (nI b)), some (.int (A + psum (smF M a b v) w)), some (.int (nI v)), some (.int (nI w))]) (st' := [.int (nI v), .int (M 82 a), .ref 72, .int (A + psum (smF M a b v) w)]) (M' := M) rfl ⟨trivial, trivial, trivial, rfl, trivial, ⟨rfl, (by show _ < 9; omega)⟩, trivial, trivial⟩ ?_
      refine g_callV (s_isIn M (M 82 a) v) ok_X7_sumOf_X7_isIn (by decide +kernel) rfl (c := 7) rfl (by decide) rfl (Nat.le_of_ble_eq_true rfl) (fun r M' h => ?_) rfl
      obtain ⟨hr, hM⟩ := h
      rw [hr, hM]
      show G _ 39 [some (.ref 72), some (.int (nI a)), some (.int (nI b)), some (.int (A + psum (smF M a b v) w)), some (.int (nI v)), some (.int (nI w))] [.int (hb (M 82 a) v), .int (A + psum (smF M a b v) w)] M _
      refine g_if_eq (off := 33) (tgt := 72) (by decide +kernel) (by decide) (fun c2 => ?_) (fun c2 => ?_)
      · refine blk 7 [(.iconst 0, 0, 0, (nI 0)), (.iadd, 0, 0, 0), (.istore_n 3, 0, 0, 0), (.iinc 5 1, 0, 0, (nI 1)), (.goto (-61), 17, 0, 0)] [] (by decide +kernel) rfl (pc' := 17) (ls' := [some (.ref 72), some (.int (nI a)), some (.int (nI b)), some (.int ((A + psum (smF M a b v) w) + (nI 0))), some (.int (nI v)), some (.int (nI w + nI 1))]) (st' := []) (M' := M) rfl ⟨trivial, trivial, trivial, trivial, trivial, trivial⟩ ?_
        have e : (A + psum (smF M a b v) w) + (nI 0) = A + psum (smF M a b v) (w + 1) := by rw [psum, ← Int32.add_assoc]; congr 1; unfold smF; rw [if_neg (fun z => by first | exact z.1 (by assumption) | exact z.2 (by assumption))]; exact nI_0
        refine G.sub (ls' := [some (.ref 72), some (.int (nI a)), some (.int (nI b)), some (.int (A + psum (smF M a b v) (w + 1))), some (.int (nI v)), some (.int (nI (w + 1)))]) ?_ ⟨rfl, rfl, rfl, congrArg (fun z => some (Value.int z)) e, rfl, congrArg (fun z => some (Value.int z)) (by simp only [nI_add, nI_s1]), trivial⟩
        exact ih (d - 1) (by omega) (w + 1) (by omega) (by omega)
      · refine blk 7 [(.aload_n 0, 0, 0, 0), (.aload_n 0, 0, 0, 0), (.getfield 41, 7, 16, 0), (.iload_n 2, 0, 0, 0), (.iaload, 0, 0, 0), (.iload 5, 0, 0, 0)] [b] (by decide +kernel) rfl (pc' := 51) (ls' := [some (.ref 72), some (.int (nI a)), some (.int (nI b)), some (.int (A + psum (smF M a b v) w)), some (.int (nI v)), some (.int (nI w))]) (st' := [.int (nI w), .int (M 82 b), .ref 72, .int (A + psum (smF M a b v) w)]) (M' := M) rfl ⟨trivial, trivial, rfl, trivial, ⟨rfl, (by show _ < 9; omega)⟩, trivial, trivial⟩ ?_
        refine g_callV (s_isIn M (M 82 b) w) ok_X7_sumOf_X7_isIn (by decide +kernel) rfl (c := 7) rfl (by decide) rfl (Nat.le_of_ble_eq_true rfl) (fun r M' h => ?_) rfl
        obtain ⟨hr, hM⟩ := h
        rw [hr, hM]
        show G _ 54 [some (.ref 72), some (.int (nI a)), some (.int (nI b)), some (.int (A + psum (smF M a b v) w)), some (.int (nI v)), some (.int (nI w))] [.int (hb (M 82 b) w), .int (A + psum (smF M a b v) w)] M _
        refine g_if_eq (off := 18) (tgt := 72) (by decide +kernel) (by decide) (fun c3 => ?_) (fun c3 => ?_)
        · refine blk 7 [(.iconst 0, 0, 0, (nI 0)), (.iadd, 0, 0, 0), (.istore_n 3, 0, 0, 0), (.iinc 5 1, 0, 0, (nI 1)), (.goto (-61), 17, 0, 0)] [] (by decide +kernel) rfl (pc' := 17) (ls' := [some (.ref 72), some (.int (nI a)), some (.int (nI b)), some (.int ((A + psum (smF M a b v) w) + (nI 0))), some (.int (nI v)), some (.int (nI w + nI 1))]) (st' := []) (M' := M) rfl ⟨trivial, trivial, trivial, trivial, trivial, trivial⟩ ?_
          have e : (A + psum (smF M a b v) w) + (nI 0) = A + psum (smF M a b v) (w + 1) := by rw [psum, ← Int32.add_assoc]; congr 1; unfold smF; rw [if_neg (fun z => by first | exact z.1 (by assumption) | exact z.2 (by assumption))]; exact nI_0
          refine G.sub (ls' := [some (.ref 72), some (.int (nI a)), some (.int (nI b)), some (.int (A + psum (smF M a b v) (w + 1))), some (.int (nI v)), some (.int (nI (w + 1)))]) ?_ ⟨rfl, rfl, rfl, congrArg (fun z => some (Value.int z)) e, rfl, congrArg (fun z => some (Value.int z)) (by simp only [nI_add, nI_s1]), trivial⟩
          exact ih (d - 1) (by omega) (w + 1) (by omega) (by omega)
        · refine blk 7 [(.aload_n 0, 0, 0, 0), (.getfield 56, 7, 21, 0), (.iconst 5, 0, 0, (nI 5)), (.iload 4, 0, 0, 0), (.imul, 0, 0, 0), (.iload 5, 0, 0, 0), (.iadd, 0, 0, 0), (.iaload, 0, 0, 0), (.goto (4), 73, 0, 0), (.iadd, 0, 0, 0), (.istore_n 3, 0, 0, 0), (.iinc 5 1, 0, 0, (nI 1)), (.goto (-61), 17, 0, 0)] [5 * v + w] (by decide +kernel) rfl (pc' := 17) (ls' := [some (.ref 72), some (.int (nI a)), some (.int (nI b)), some (.int ((A + psum (smF M a b v) w) + (M 87 (5 * v + w)))), some (.int (nI v)), some (.int (nI w + nI 1))]) (st' := []) (M' := M) rfl ⟨trivial, rfl, trivial, trivial, trivial, trivial, trivial, ⟨(by simp only [hn, nI_add, pk_mul, nI_s1, Nat.reduceAdd, Nat.reduceMul]), (by show _ < 25; omega)⟩, trivial, trivial, trivial, trivial, trivial, trivial⟩ ?_
          have e : (A + psum (smF M a b v) w) + (M 87 (5 * v + w)) = A + psum (smF M a b v) (w + 1) := by rw [psum, ← Int32.add_assoc]; congr 1; unfold smF; rw [if_pos ⟨by assumption, by assumption⟩]
          refine G.sub (ls' := [some (.ref 72), some (.int (nI a)), some (.int (nI b)), some (.int (A + psum (smF M a b v) (w + 1))), some (.int (nI v)), some (.int (nI (w + 1)))]) ?_ ⟨rfl, rfl, rfl, congrArg (fun z => some (Value.int z)) e, rfl, congrArg (fun z => some (Value.int z)) (by simp only [nI_add, nI_s1]), trivial⟩
          exact ih (d - 1) (by omega) (w + 1) (by omega) (by omega)
theorem l_sumO {M : Mem} {n a b : Nat} (hn : M 72 0 = nI n) (hn5 : n ≤ 5) (ha : a < 9) (hb' : b < 9) : ∀ d v, d = n - v → v ≤ n → G mX7_sumOf 5 [some (.ref 72), some (.int (nI a)), some (.int (nI b)), some (.int (psum (fun v => psum (smF M a b v) n) v)), some (.int (nI v)), none] [] M (Ret (psum (fun v => psum (smF M a b v) n) n) M) := by
  intro d
  induction d using Nat.strongRecOn with
  | ind d ih =>
    intro v hd hv
    refine blk 7 [(.iload 4, 0, 0, 0), (.aload_n 0, 0, 0, 0), (.getfield 103, 7, 0, 0)] [] (by decide +kernel) rfl (pc' := 11) (ls' := [some (.ref 72), some (.int (nI a)), some (.int (nI b)), some (.int (psum (fun v => psum (smF M a b v) n) v)), some (.int (nI v)), none]) (st' := [.int (M 72 0), .int (nI v)]) (M' := M) rfl ⟨trivial, trivial, rfl, trivial⟩ ?_
    refine g_icmp_ge (off := 76) (tgt := 87) (by decide +kernel) (by decide) (fun c1 => ?_) (fun c1 => ?_)
    · have nc1 : n ≤ v := (nI_leI (by omega) (by omega)).mp (by simpa only [hn, nI_add, pk_mul, nI_s1, n0_lit] using c1)
      refine blk 7 [(.iload_n 3, 0, 0, 0)] [] (by decide +kernel) rfl (pc' := 88) (ls' := [some (.ref 72), some (.int (nI a)), some (.int (nI b)), some (.int (psum (fun v => psum (smF M a b v) n) v)), some (.int (nI v)), none]) (st' := [.int (psum (fun v => psum (smF M a b v) n) v)]) (M' := M) rfl ⟨trivial, trivial⟩ ?_
      have e : v = n := by omega
      subst e
      exact g_ireturn (by decide +kernel) rfl rfl ⟨rfl, rfl⟩
    · have nc1 : v < n := by
        have z : ¬ nI n ≤ nI v := by simpa only [hn, nI_add, pk_mul, nI_s1, n0_lit] using c1
        rw [nI_leI (by omega) (by omega)] at z
        omega
      refine blk 7 [(.iconst 0, 0, 0, (nI 0)), (.istore 5, 0, 0, 0)] [] (by decide +kernel) rfl (pc' := 17) (ls' := [some (.ref 72), some (.int (nI a)), some (.int (nI b)), some (.int (psum (fun v => psum (smF M a b v) n) v)), some (.int (nI v)), some (.int (nI 0))]) (st' := []) (M' := M) rfl ⟨trivial, trivial, trivial⟩ ?_
      refine G.sub (ls' := [some (.ref 72), some (.int (nI a)), some (.int (nI b)), some (.int (psum (fun v => psum (smF M a b v) n) v + psum (smF M a b v) 0)), some (.int (nI v)), some (.int (nI 0))]) ?_ ⟨rfl, rfl, rfl, congrArg (fun z => some (Value.int z)) (Int32.add_zero _).symm, rfl, rfl, trivial⟩
      exact l_sumO2 hn hn5 ha hb' (by omega) (ih (d - 1) (by omega) (v + 1) (by omega) (by omega)) _ 0 rfl (by omega)
theorem s_sumOf (M : Mem) {n a b : Nat} (hn : M 72 0 = nI n) (hn5 : n ≤ 5) (ha : a < 9) (hb' : b < 9) : Spec mX7_sumOf [.ref 72, .int (nI a), .int (nI b)] M (Ret (psum (fun v => psum (smF M a b v) n) n) M) := by
  refine Spec.of (by decide) (by simp [Value.category]) (Nat.le_of_ble_eq_true rfl) ?_
  refine blk 7 [(.iconst 0, 0, 0, (nI 0)), (.istore_n 3, 0, 0, 0), (.iconst 0, 0, 0, (nI 0)), (.istore 4, 0, 0, 0)] [] (by decide +kernel) rfl (pc' := 5) (ls' := [some (.ref 72), some (.int (nI a)), some (.int (nI b)), some (.int (nI 0)), some (.int (nI 0)), none]) (st' := []) (M' := M) rfl ⟨trivial, trivial, trivial, trivial, trivial⟩ ?_
  refine G.sub (ls' := [some (.ref 72), some (.int (nI a)), some (.int (nI b)), some (.int (psum (fun v => psum (smF M a b v) n) 0)), some (.int (nI 0)), none]) ?_ ⟨rfl, rfl, rfl, congrArg (fun z => some (Value.int z)) nI_0, rfl, trivial⟩
  exact l_sumO hn hn5 ha hb' _ 0 rfl (by omega)
theorem l_spans {M : Mem} {a k : Nat} (ha : a < 9) (hk : k ≤ 9) : ∀ d x, d = k - x → x ≤ k → G mX7_spansOf 5 [some (.ref 72), some (.int (nI a)), some (.int (nI k)), some (.int (psum (snF M a) x)), some (.int (nI x))] [] M (Ret (psum (snF M a) k) M) := by
  intro d
  induction d using Nat.strongRecOn with
  | ind d ih =>
    intro x hd hx
    refine blk 7 [(.iload 4, 0, 0, 0), (.iload_n 2, 0, 0, 0)] [] (by decide +kernel) rfl (pc' := 8) (ls' := [some (.ref 72), some (.int (nI a)), some (.int (nI k)), some (.int (psum (snF M a) x)), some (.int (nI x))]) (st' := [.int (nI k), .int (nI x)]) (M' := M) rfl ⟨trivial, trivial, trivial⟩ ?_
    refine g_icmp_ge (off := 44) (tgt := 52) (by decide +kernel) (by decide) (fun c1 => ?_) (fun c1 => ?_)
    · have nc1 : k ≤ x := (nI_leI (by omega) (by omega)).mp (by simpa only [nI_add, pk_mul, nI_s1, n0_lit] using c1)
      refine blk 7 [(.iload_n 3, 0, 0, 0)] [] (by decide +kernel) rfl (pc' := 53) (ls' := [some (.ref 72), some (.int (nI a)), some (.int (nI k)), some (.int (psum (snF M a) x)), some (.int (nI x))]) (st' := [.int (psum (snF M a) x)]) (M' := M) rfl ⟨trivial, trivial⟩ ?_
      have e : x = k := by omega
      subst e
      exact g_ireturn (by decide +kernel) rfl rfl ⟨rfl, rfl⟩
    · have nc1 : x < k := by
        have z : ¬ nI k ≤ nI x := by simpa only [nI_add, pk_mul, nI_s1, n0_lit] using c1
        rw [nI_leI (by omega) (by omega)] at z
        omega
      refine blk 7 [(.iload_n 3, 0, 0, 0), (.iload 4, 0, 0, 0), (.iload_n 1, 0, 0, 0)] [] (by decide +kernel) rfl (pc' := 15) (ls' := [some (.ref 72), some (.int (nI a)), some (.int (nI k)), some (.int (psum (snF M a) x)), some (.int (nI x))]) (st' := [.int (nI a), .int (nI x), .int (psum (snF M a) x)]) (M' := M) rfl ⟨trivial, trivial, trivial, trivial⟩ ?_
      refine g_icmp_eq (off := 28) (tgt := 43) (by decide +kernel) (by decide) (fun c2 => ?_) (fun c2 => ?_)
      · have nc2 : x = a := (nI_eq (by omega) (by omega)).mp (by simpa only [nI_add, pk_mul, nI_s1, n0_lit] using c2)
        refine blk 7 [(.iconst 0, 0, 0, (nI 0)), (.iadd, 0, 0, 0), (.istore_n 3, 0, 0, 0), (.iinc 4 1, 0, 0, (nI 1)), (.goto (-44), 5, 0, 0)] [] (by decide +kernel) rfl (pc' := 5) (ls' := [some (.ref 72), some (.int (nI a)), some (.int (nI k)), some (.int ((psum (snF M a) x) + (nI 0))), some (.int (nI x + nI 1))]) (st' := []) (M' := M) rfl ⟨trivial, trivial, trivial, trivial, trivial, trivial⟩ ?_
        have e : (psum (snF M a) x) + (nI 0) = psum (snF M a) (x + 1) := by rw [psum]; congr 1; unfold snF; rw [if_neg (fun z => by first | omega | exact absurd z.2 (Int32.not_lt.mpr (by assumption)))]; exact nI_0
        refine G.sub (ls' := [some (.ref 72), some (.int (nI a)), some (.int (nI k)), some (.int (psum (snF M a) (x + 1))), some (.int (nI (x + 1)))]) ?_ ⟨rfl, rfl, rfl, congrArg (fun z => some (Value.int z)) e, congrArg (fun z => some (Value.int z)) (by simp only [nI_add, nI_s1]), trivial⟩
        exact ih (d - 1) (by omega) (x + 1) (by omega) (by omega)
      · have nc2 : x ≠ a := by
          have z : ¬ nI x = nI a := by simpa only [nI_add, pk_mul, nI_s1, n0_lit] using c2
          rw [nI_eq (by omega) (by omega)] at z
          omega
        refine blk 7 [(.aload_n 0, 0, 0, 0), (.getfield 35, 7, 14, 0), (.iload 4, 0, 0, 0), (.iaload, 0, 0, 0)] [x] (by decide +kernel) rfl (pc' := 25) (ls' := [some (.ref 72), some (.int (nI a)), some (.int (nI k)), some (.int (psum (snF M a) x)), some (.int (nI x))]) (st' := [.int (M 80 x), .int (psum (snF M a) x)]) (M' := M) rfl ⟨trivial, rfl, trivial, ⟨rfl, (by show _ < 9; omega)⟩, trivial⟩ ?_
        refine g_if_ge (off := 18) (tgt := 43) (by decide +kernel) (by decide) (fun c3 => ?_) (fun c3 => ?_)
        · refine blk 7 [(.iconst 0, 0, 0, (nI 0)), (.iadd, 0, 0, 0), (.istore_n 3, 0, 0, 0), (.iinc 4 1, 0, 0, (nI 1)), (.goto (-44), 5, 0, 0)] [] (by decide +kernel) rfl (pc' := 5) (ls' := [some (.ref 72), some (.int (nI a)), some (.int (nI k)), some (.int ((psum (snF M a) x) + (nI 0))), some (.int (nI x + nI 1))]) (st' := []) (M' := M) rfl ⟨trivial, trivial, trivial, trivial, trivial, trivial⟩ ?_
          have e : (psum (snF M a) x) + (nI 0) = psum (snF M a) (x + 1) := by rw [psum]; congr 1; unfold snF; rw [if_neg (fun z => by first | omega | exact absurd z.2 (Int32.not_lt.mpr (by assumption)))]; exact nI_0
          refine G.sub (ls' := [some (.ref 72), some (.int (nI a)), some (.int (nI k)), some (.int (psum (snF M a) (x + 1))), some (.int (nI (x + 1)))]) ?_ ⟨rfl, rfl, rfl, congrArg (fun z => some (Value.int z)) e, congrArg (fun z => some (Value.int z)) (by simp only [nI_add, nI_s1]), trivial⟩
          exact ih (d - 1) (by omega) (x + 1) (by omega) (by omega)
        · refine blk 7 [(.aload_n 0, 0, 0, 0), (.getfield 53, 7, 20, 0), (.bipush 9, 0, 0, (nI 9)), (.iload_n 1, 0, 0, 0), (.imul, 0, 0, 0), (.iload 4, 0, 0, 0), (.iadd, 0, 0, 0), (.iaload, 0, 0, 0), (.goto (4), 44, 0, 0), (.iadd, 0, 0, 0), (.istore_n 3, 0, 0, 0), (.iinc 4 1, 0, 0, (nI 1)), (.goto (-44), 5, 0, 0)] [9 * a + x] (by decide +kernel) rfl (pc' := 5) (ls' := [some (.ref 72), some (.int (nI a)), some (.int (nI k)), some (.int ((psum (snF M a) x) + (M 86 (9 * a + x)))), some (.int (nI x + nI 1))]) (st' := []) (M' := M) rfl ⟨trivial, rfl, trivial, trivial, trivial, trivial, trivial, ⟨(by simp only [nI_add, pk_mul, nI_s1, Nat.reduceAdd, Nat.reduceMul]), (by show _ < 81; omega)⟩, trivial, trivial, trivial, trivial, trivial, trivial⟩ ?_
          have e : (psum (snF M a) x) + (M 86 (9 * a + x)) = psum (snF M a) (x + 1) := by rw [psum]; congr 1; unfold snF; rw [if_pos ⟨by omega, Int32.not_le.mp (by assumption)⟩]
          refine G.sub (ls' := [some (.ref 72), some (.int (nI a)), some (.int (nI k)), some (.int (psum (snF M a) (x + 1))), some (.int (nI (x + 1)))]) ?_ ⟨rfl, rfl, rfl, congrArg (fun z => some (Value.int z)) e, congrArg (fun z => some (Value.int z)) (by simp only [nI_add, nI_s1]), trivial⟩
          exact ih (d - 1) (by omega) (x + 1) (by omega) (by omega)
theorem s_spansOf (M : Mem) {a k : Nat} (ha : a < 9) (hk : k ≤ 9) : Spec mX7_spansOf [.ref 72, .int (nI a), .int (nI k)] M (Ret (psum (snF M a) k) M) := by
  refine Spec.of (by decide) (by simp [Value.category]) (Nat.le_of_ble_eq_true rfl) ?_
  refine blk 7 [(.iconst 0, 0, 0, (nI 0)), (.istore_n 3, 0, 0, 0), (.iconst 0, 0, 0, (nI 0)), (.istore 4, 0, 0, 0)] [] (by decide +kernel) rfl (pc' := 5) (ls' := [some (.ref 72), some (.int (nI a)), some (.int (nI k)), some (.int (nI 0)), some (.int (nI 0))]) (st' := []) (M' := M) rfl ⟨trivial, trivial, trivial, trivial, trivial⟩ ?_
  refine G.sub (ls' := [some (.ref 72), some (.int (nI a)), some (.int (nI k)), some (.int (psum (snF M a) 0)), some (.int (nI 0))]) ?_ ⟨rfl, rfl, rfl, congrArg (fun z => some (Value.int z)) nI_0, rfl, trivial⟩
  exact l_spans ha hk _ 0 rfl (by omega)
/-! sums over pairs of words are the sums kept along the history -/
def sumD (D : Nat → Nat → Int32) (n X Y : Nat) : Int32 := psum (fun v => psum (fun w => if ¬ hb (nI X) v = 0 ∧ ¬ hb (nI Y) w = 0 then D v w else 0) n) n
theorem sumD_or {D : Nat → Nat → Int32} {n X X' Y : Nat} (hn : n ≤ 5) (hX : X < 32) (hX' : X' < 32) (hd : X &&& X' = 0) : sumD D n (X ||| X') Y = sumD D n X Y + sumD D n X' Y := by
  unfold sumD
  rw [← psum_add]
  refine psum_congr (fun v hv => ?_)
  rw [← psum_add]
  refine psum_congr (fun w hw => ?_)
  have ho := hb_or hX hX' (show v < 5 by omega)
  have ha := hb_and hX hX' (show v < 5 by omega) hd
  by_cases c : ¬ hb (nI Y) w = 0
  · by_cases c1 : ¬ hb (nI X) v = 0
    · rw [if_pos ⟨ho.mpr (Or.inl c1), c⟩, if_pos ⟨c1, c⟩, if_neg (fun z => ha c1 z.1), Int32.add_zero]
    · by_cases c2 : ¬ hb (nI X') v = 0
      · rw [if_pos ⟨ho.mpr (Or.inr c2), c⟩, if_neg (fun z => c1 z.1), if_pos ⟨c2, c⟩, Int32.zero_add]
      · rw [if_neg (fun z => (ho.mp z.1).elim c1 c2), if_neg (fun z => c1 z.1), if_neg (fun z => c2 z.1), Int32.add_zero]
  · rw [if_neg (fun z => c z.2), if_neg (fun z => c z.2), if_neg (fun z => c z.2), Int32.add_zero]
theorem sumD_sym {D : Nat → Nat → Int32} {n X Y : Nat} (hs : ∀ a b, D a b = D b a) : sumD D n X Y = sumD D n Y X := by
  unfold sumD
  rw [psum_comm]
  refine psum_congr (fun v _ => psum_congr (fun w _ => ?_))
  by_cases c : ¬ hb (nI X) w = 0 ∧ ¬ hb (nI Y) v = 0
  · rw [if_pos c, if_pos ⟨c.2, c.1⟩, hs w v]
  · rw [if_neg c, if_neg (fun z => c ⟨z.2, z.1⟩)]
theorem sumD_leaf {D : Nat → Nat → Int32} {n a b : Nat} (hn : n ≤ 5) (ha : a < n) (hb' : b < n) : sumD D n (2 ^ a) (2 ^ b) = D a b := by
  unfold sumD
  rw [← bit_nI (show a < 5 by omega), ← bit_nI (show b < 5 by omega)]
  rw [psum_one (k := a) ha (fun v hv hne => psum_zero (fun w _ => if_neg (fun z => hne ((hb_bit_ne (by omega) (by omega)).mp z.1))))]
  rw [psum_one (k := b) hb' (fun w hw hne => if_neg (fun z => hne ((hb_bit_ne (by omega) (by omega)).mp z.2)))]
  exact if_pos ⟨(hb_bit_ne (by omega) (by omega)).mpr rfl, (hb_bit_ne (by omega) (by omega)).mpr rfl⟩
theorem sum_bw {D : Nat → Nat → Int32} {n : Nat} (hn : n ≤ 5) (hs : ∀ a b, D a b = D b a) : ∀ h : Hist, h.length < n → okH n h → ∀ a b, a < n + h.length → b < n + h.length → a ≠ b → parF n h a = 0 → parF n h b = 0 → sumD D n (mskF n h a) (mskF n h b) = bwF D false n h a b := by
  intro h
  induction h with
  | nil => intro _ _ a b ha hb _ _ _; exact sumD_leaf hn ha hb
  | cons p h ih =>
    intro hl hh a b ha hb hab o1 o2
    have hlen : (p :: h).length = h.length + 1 := rfl
    obtain ⟨h1, h2, h3, h4, h5⟩ := hh
    have pe : ∀ x, parF n (p :: h) x = 0 → x ≠ p.1 ∧ x ≠ p.2 ∧ parF n h x = 0 := fun x hx => by
      have hx' : (if x = p.1 ∨ x = p.2 then n + h.length else parF n h x) = 0 := hx
      by_cases c : x = p.1 ∨ x = p.2
      · rw [if_pos c] at hx'; omega
      · rw [if_neg c] at hx'; exact ⟨fun z => c (Or.inl z), fun z => c (Or.inr z), hx'⟩
    have P1 := pe a o1
    have P2 := pe b o2
    have ih := ih (by omega) h1
    have sl := hist_small hn (show h.length < n by omega) h1 (a := p.1) (by omega)
    have sq := hist_small hn (show h.length < n by omega) h1 (a := p.2) (by omega)
    have hdis := hist_apart hn (show h.length < n by omega) h1 (a := p.1) (b := p.2) (by omega) (by omega) (by omega) h4 h5
    have key : ∀ x, x < n + h.length → x ≠ p.1 → x ≠ p.2 → parF n h x = 0 → sumD D n (mskF n h p.1 ||| mskF n h p.2) (mskF n h x) = bwF D false n h p.1 x + bwF D false n h p.2 x := fun x hx n1 n2 ho => by
      rw [sumD_or hn sl.2.2 sq.2.2 hdis, ih p.1 x (by omega) hx (fun z => n1 z.symm) h4 ho, ih p.2 x (by omega) hx (fun z => n2 z.symm) h5 ho]
    rw [bwF, mskF, mskF]
    unfold jnF
    by_cases e : a = n + h.length
    · rw [if_pos e, if_pos e, if_pos rfl, if_neg (by omega)]
      exact key b (by omega) P2.1 P2.2.1 P2.2.2
    · rw [if_neg e, if_neg e]
      by_cases e2 : b = n + h.length
      · rw [if_pos e2, if_pos e2, if_pos rfl, sumD_sym hs]
        exact key a (by omega) P1.1 P1.2.1 P1.2.2
      · rw [if_neg e2, if_neg e2]
        exact ih a b (by omega) (by omega) hab P1.2.2 P2.2.2
/-! sizes of the values: no product leaves the ints -/
theorem sm_nI {a : Nat} {K : Int} (h : (a : Int) ≤ K) (h2 : a < 2 ^ 31) : sm K (nI a) := by
  unfold sm
  rw [nI_toInt h2]
  omega
theorem half_bd (z : Int) : (0 ≤ z → 0 ≤ z.tdiv 2 ∧ 2 * z.tdiv 2 ≤ z) ∧ (z ≤ 0 → z.tdiv 2 ≤ 0 ∧ z ≤ 2 * z.tdiv 2) := by
  constructor
  · intro h
    rw [Int.tdiv_eq_ediv_of_nonneg h]
    omega
  · intro h
    have e : z.tdiv 2 = - ((-z) / 2) := by
      rw [← Int.tdiv_eq_ediv_of_nonneg (show 0 ≤ -z by omega), Int.neg_tdiv]; omega
    rw [e]
    omega
theorem bw_sm {dd : Nat → Nat → Nat} {n : Nat} {sp : Bool} (hd : ∀ a b, dd a b ≤ 1000) : ∀ h : Hist, h.length ≤ 4 → ∀ a b, sm (8000 * 2 ^ h.length) (bwF (dI dd) sp n h a b) := by
  intro h
  induction h with
  | nil =>
    intro _ a b
    rw [bwF]
    have := hd a b
    have e : (8000 * 2 ^ ([] : Hist).length : Int) = 8000 := by decide
    rw [e]
    by_cases c : sp = false
    · rw [if_pos c]; exact sm_nI (by omega) (by omega)
    · rw [if_neg c, pk_mul]; exact sm_nI (by omega) (by omega)
  | cons p h ih =>
    intro hl a b
    have hlen : (p :: h).length = h.length + 1 := rfl
    have ih := ih (by omega)
    have eB : (8000 * 2 ^ (p :: h).length : Int) = 2 * (8000 * 2 ^ h.length) := by rw [hlen, Int.pow_succ]; omega
    have hB : (8000 * 2 ^ h.length : Int) ≤ 128000 := by
      have : ∀ j, j < 5 → (8000 * 2 ^ j : Int) ≤ 128000 := by decide
      exact this _ (by omega)
    have key : ∀ x, sm (2 * (8000 * 2 ^ h.length)) (jnF (bwF (dI dd) sp n h) sp p.1 p.2 x) := fun x => by
      have i1 := ih p.1 x
      have i2 := ih p.2 x
      have i3 := ih p.1 p.2
      unfold jnF
      unfold sm at *
      have e1 : (bwF (dI dd) sp n h p.1 x + bwF (dI dd) sp n h p.2 x).toInt = (bwF (dI dd) sp n h p.1 x).toInt + (bwF (dI dd) sp n h p.2 x).toInt := ti_add (by omega) (by omega) (by omega) (by omega)
      by_cases c : sp = false
      · rw [if_pos c, e1]; omega
      · rw [if_neg c]
        have e2 : (bwF (dI dd) sp n h p.1 x + bwF (dI dd) sp n h p.2 x - bwF (dI dd) sp n h p.1 p.2).toInt = (bwF (dI dd) sp n h p.1 x).toInt + (bwF (dI dd) sp n h p.2 x).toInt - (bwF (dI dd) sp n h p.1 p.2).toInt := by rw [ti_sub (by omega) (by omega) (by omega) (by omega), e1]
        have e3 : ((bwF (dI dd) sp n h p.1 x + bwF (dI dd) sp n h p.2 x - bwF (dI dd) sp n h p.1 p.2) / nI 2).toInt = ((bwF (dI dd) sp n h p.1 x).toInt + (bwF (dI dd) sp n h p.2 x).toInt - (bwF (dI dd) sp n h p.1 p.2).toInt).tdiv 2 := by
          rw [Int32.toInt_div, e2, show (nI 2).toInt = 2 from by decide +kernel]
          have hz := half_bd ((bwF (dI dd) sp n h p.1 x).toInt + (bwF (dI dd) sp n h p.2 x).toInt - (bwF (dI dd) sp n h p.1 p.2).toInt)
          exact Int.bmod_eq_of_le (by omega) (by omega)
        rw [e3]
        have hz := half_bd ((bwF (dI dd) sp n h p.1 x).toInt + (bwF (dI dd) sp n h p.2 x).toInt - (bwF (dI dd) sp n h p.1 p.2).toInt)
        omega
    rw [eB, bwF]
    split
    · exact key b
    · split
      · exact key a
      · have h0 : ∀ j, j < 5 → (0 : Int) ≤ 8000 * 2 ^ j := by decide
        have := h0 h.length (by omega)
        exact sm_mono (ih a b) (by omega)
