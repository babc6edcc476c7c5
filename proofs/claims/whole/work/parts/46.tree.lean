/-! the class's tree: plant, setBetween, setDistance, isOpen, numerator, denominator, isNearer, betweenJoined, climb, weigh -/
theorem al26 {a : Nat} (h : a < 9) : al (26 + a) = 9 := (by decide : ∀ a, a < 9 → al (26 + a) = 9) a h
def plantP (M : Mem) (n : Nat) (nb : Int32) : Option Value → Mem → Prop := fun r N => r = none ∧ N 16 9 = nI n ∧ N 16 10 = nI n ∧ N 16 11 = nb ∧ (∀ i, i < n → N 20 i = bit i ∧ N 21 i = nI 1 ∧ N 22 i = nI 0 ∧ N 23 i = -1) ∧ ∀ z, z ≠ 16 → z ≠ 20 → z ≠ 21 → z ≠ 22 → z ≠ 23 → N z = M z
theorem l_plant {M : Mem} {n : Nat} {nb : Int32} (hn5 : n ≤ 5) : ∀ d i N, d = n - i → i ≤ n → (N 16 9 = nI n ∧ N 16 10 = nI n ∧ N 16 11 = nb) → (∀ a, a < i → N 20 a = bit a ∧ N 21 a = nI 1 ∧ N 22 a = nI 0 ∧ N 23 a = -1) → (∀ z, z ≠ 16 → z ≠ 20 → z ≠ 21 → z ≠ 22 → z ≠ 23 → N z = M z) → G mX5_plant 17 [some (.ref 16), some (.int (nI n)), some (.int nb), some (.int (nI i))] [] N (plantP M n nb) := by
  intro d
  induction d using Nat.strongRecOn with
  | ind d ih =>
    intro i N hd hi j0 j1 j2
    refine blk 5 [(.iload_n 3, 0, 0, 0), (.iload_n 1, 0, 0, 0)] [] (by decide +kernel) rfl (pc' := 19) (ls' := [some (.ref 16), some (.int (nI n)), some (.int nb), some (.int (nI i))]) (st' := [.int (nI n), .int (nI i)]) (M' := N) rfl ⟨trivial, trivial, trivial⟩ ?_
    refine g_icmp_ge (off := 39) (tgt := 58) (by decide +kernel) (by decide) (fun c1 => ?_) (fun c1 => ?_)
    · have nc1 : n ≤ i := (nI_leI (by omega) (by omega)).mp (by simpa only [nI_add, pk_mul, nI_s1, n0_lit] using c1)
      have e : i = n := by omega
      subst e
      exact g_return (by decide +kernel) rfl ⟨rfl, j0.1, j0.2.1, j0.2.2, j1, j2⟩
    · have nc1 : i < n := by
        have z : ¬ nI n ≤ nI i := by simpa only [nI_add, pk_mul, nI_s1, n0_lit] using c1
        rw [nI_leI (by omega) (by omega)] at z
        omega
      refine blk 5 [(.aload_n 0, 0, 0, 0), (.getfield 21, 5, 3, 0), (.iload_n 3, 0, 0, 0), (.iconst 1, 0, 0, (nI 1)), (.iload_n 3, 0, 0, 0), (.ishl, 0, 0, 0), (.iastore, 0, 0, 0), (.aload_n 0, 0, 0, 0), (.getfield 24, 5, 4, 0), (.iload_n 3, 0, 0, 0), (.iconst 1, 0, 0, (nI 1)), (.iastore, 0, 0, 0), (.aload_n 0, 0, 0, 0), (.getfield 27, 5, 5, 0), (.iload_n 3, 0, 0, 0), (.iconst 0, 0, 0, (nI 0)), (.iastore, 0, 0, 0), (.aload_n 0, 0, 0, 0), (.getfield 30, 5, 6, 0), (.iload_n 3, 0, 0, 0), (.iconst (-1), 0, 0, (-1)), (.iastore, 0, 0, 0), (.iinc 3 1, 0, 0, (nI 1)), (.goto (-38), 17, 0, 0)] [i, i, i, i] (by decide +kernel) rfl (pc' := 17) (ls' := [some (.ref 16), some (.int (nI n)), some (.int nb), some (.int (nI i + nI 1))]) (st' := []) (M' := stm (stm (stm (stm N 20 i ((nI 1) <<< ((nI i) &&& 31))) 21 i (nI 1)) 22 i (nI 0)) 23 i (-1)) rfl ⟨trivial, rfl, trivial, trivial, trivial, trivial, ⟨rfl, (by show _ < 9; omega), by decide⟩, trivial, rfl, trivial, trivial, ⟨rfl, (by show _ < 9; omega), by decide⟩, trivial, rfl, trivial, trivial, ⟨rfl, (by show _ < 9; omega), by decide⟩, trivial, rfl, trivial, trivial, ⟨rfl, (by show _ < 9; omega), by decide⟩, trivial, trivial, trivial⟩ ?_
      refine G.sub (ls' := [some (.ref 16), some (.int (nI n)), some (.int nb), some (.int (nI (i + 1)))]) ?_ ⟨rfl, rfl, rfl, congrArg (fun z => some (Value.int z)) (by simp only [nI_add, nI_s1]), trivial⟩
      refine ih (d - 1) (by omega) (i + 1) _ (by omega) (by omega) (by rw [stm_ne (by decide), stm_ne (by decide), stm_ne (by decide), stm_ne (by decide)]; exact j0) (fun a ha => ?_) (fun z z1 z2 z3 z4 z5 => by rw [stm_ne z5, stm_ne z4, stm_ne z3, stm_ne z2]; exact j2 z z1 z2 z3 z4 z5)
      by_cases e : a = i
      · subst e
        refine ⟨?_, ?_, ?_, ?_⟩
        · rw [stm_ne (by decide), stm_ne (by decide), stm_ne (by decide), stm_self]; rfl
        · rw [stm_ne (by decide), stm_ne (by decide), stm_self]
        · rw [stm_ne (by decide), stm_self]
        · rw [stm_self]
      · have := j1 a (by omega)
        refine ⟨?_, ?_, ?_, ?_⟩
        · rw [stm_ne (by decide), stm_ne (by decide), stm_ne (by decide), stm_off e]; exact this.1
        · rw [stm_ne (by decide), stm_ne (by decide), stm_off e, stm_ne (by decide)]; exact this.2.1
        · rw [stm_ne (by decide), stm_off e, stm_ne (by decide), stm_ne (by decide)]; exact this.2.2.1
        · rw [stm_off e, stm_ne (by decide), stm_ne (by decide), stm_ne (by decide)]; exact this.2.2.2
theorem s_plant (M : Mem) {n : Nat} {nb : Int32} (hn5 : n ≤ 5) (hnb : nb = nI 0 ∨ nb = nI 1) : Spec mX5_plant [.ref 16, .int (nI n), .int nb] M (plantP M n nb) := by
  refine Spec.of (by decide) (by simp [Value.category]) (Nat.le_of_ble_eq_true rfl) ?_
  refine blk 5 [(.aload_n 0, 0, 0, 0), (.iload_n 2, 0, 0, 0), (.putfield 41, 5, 11, 0), (.aload_n 0, 0, 0, 0), (.iload_n 1, 0, 0, 0), (.putfield 45, 5, 9, 0), (.aload_n 0, 0, 0, 0), (.iload_n 1, 0, 0, 0), (.putfield 49, 5, 10, 0), (.iconst 0, 0, 0, (nI 0)), (.istore_n 3, 0, 0, 0)] [] (by decide +kernel) rfl (pc' := 17) (ls' := [some (.ref 16), some (.int (nI n)), some (.int nb), some (.int (nI 0))]) (st' := []) (M' := stm (stm (stm M 16 11 nb) 16 9 (nI n)) 16 10 (nI n)) rfl ⟨trivial, trivial, ⟨rfl, (by assumption)⟩, trivial, trivial, rfl, trivial, trivial, rfl, trivial, trivial, trivial⟩ ?_
  exact l_plant hn5 _ 0 _ rfl (by omega) ⟨by rw [stm_off (by decide), stm_self], by rw [stm_self], by rw [stm_off (by decide), stm_off (by decide), stm_self]⟩ (fun a h => absurd h (by omega)) (fun z z1 _ _ _ _ => by rw [stm_ne z1, stm_ne z1, stm_ne z1])
def stB (M : Mem) (a b : Nat) (v : Int32) : Mem := stm (stm M (26 + a) b v) (26 + b) a v
theorem s_setB (M : Mem) {a b : Nat} (v : Int32) (ha : a < 9) (hb : b < 9) : Spec mX5_setBetween [.ref 16, .int (nI a), .int (nI b), .int v] M (fun r N => r = none ∧ N = stB M a b v) := by
  refine Spec.of (by decide) (by simp [Value.category]) (Nat.le_of_ble_eq_true rfl) ?_
  refine blk 5 [(.aload_n 0, 0, 0, 0), (.getfield 38, 5, 8, 0), (.iload_n 1, 0, 0, 0), (.aaload, 0, 0, 0), (.iload_n 2, 0, 0, 0), (.iload_n 3, 0, 0, 0), (.iastore, 0, 0, 0), (.aload_n 0, 0, 0, 0), (.getfield 38, 5, 8, 0), (.iload_n 2, 0, 0, 0), (.aaload, 0, 0, 0), (.iload_n 1, 0, 0, 0), (.iload_n 3, 0, 0, 0), (.iastore, 0, 0, 0)] [a, b, b, a] (by decide +kernel) rfl (pc' := 18) (ls' := [some (.ref 16), some (.int (nI a)), some (.int (nI b)), some (.int v)]) (st' := []) (M' := stm (stm M (26 + a) b v) (26 + b) a v) rfl ⟨trivial, rfl, trivial, ⟨rfl, (by show _ < 9; omega)⟩, trivial, trivial, ⟨rfl, (Nat.lt_of_lt_of_eq (by omega : b < 9) (al26 (a := a) (by omega)).symm), by show 26 + a < 96; omega⟩, trivial, rfl, trivial, ⟨rfl, (by show _ < 9; omega)⟩, trivial, trivial, ⟨rfl, (Nat.lt_of_lt_of_eq (by omega : a < 9) (al26 (a := b) (by omega)).symm), by show 26 + b < 96; omega⟩, trivial⟩ ?_
  exact g_return (by decide +kernel) rfl ⟨rfl, rfl⟩
theorem s_setD (M : Mem) {a b : Nat} (v : Int32) (ha : a < 9) (hb : b < 9) : Spec mX5_setDistance [.ref 16, .int (nI a), .int (nI b), .int v] M (fun r N => r = none ∧ N = stB M a b (if M 16 11 = 0 then v else nI 8 * v)) := by
  refine Spec.of (by decide) (by simp [Value.category]) (Nat.le_of_ble_eq_true rfl) ?_
  refine blk 5 [(.aload_n 0, 0, 0, 0), (.iload_n 1, 0, 0, 0), (.iload_n 2, 0, 0, 0), (.aload_n 0, 0, 0, 0), (.getfield 41, 5, 11, 0)] [] (by decide +kernel) rfl (pc' := 7) (ls' := [some (.ref 16), some (.int (nI a)), some (.int (nI b)), some (.int v)]) (st' := [.int (M 16 11), .int (nI b), .int (nI a), .ref 16]) (M' := M) rfl ⟨trivial, trivial, trivial, trivial, rfl, trivial⟩ ?_
  refine g_if_eq (off := 10) (tgt := 17) (by decide +kernel) (by decide) (fun c1 => ?_) (fun c1 => ?_)
  · refine blk 5 [(.iload_n 3, 0, 0, 0)] [] (by decide +kernel) rfl (pc' := 18) (ls' := [some (.ref 16), some (.int (nI a)), some (.int (nI b)), some (.int v)]) (st' := [.int v, .int (nI b), .int (nI a), .ref 16]) (M' := M) rfl ⟨trivial, trivial⟩ ?_
    refine g_callV (s_setB _ (a := a) (b := b) v (by omega) (by omega)) ok_X5_setDistance_X5_setBetween (by decide +kernel) rfl (c := 5) rfl (by decide) rfl (Nat.le_of_ble_eq_true rfl) (fun r N' h => ?_) rfl
    obtain ⟨hr, hN⟩ := h
    rw [hr, hN]
    show G _ 21 [some (.ref 16), some (.int (nI a)), some (.int (nI b)), some (.int v)] [] (stB M a b v) _
    exact g_return (by decide +kernel) rfl ⟨rfl, by simp [*]⟩
  · refine blk 5 [(.bipush 8, 0, 0, (nI 8)), (.iload_n 3, 0, 0, 0), (.imul, 0, 0, 0), (.goto (4), 18, 0, 0)] [] (by decide +kernel) rfl (pc' := 18) (ls' := [some (.ref 16), some (.int (nI a)), some (.int (nI b)), some (.int v)]) (st' := [.int ((nI 8) * v), .int (nI b), .int (nI a), .ref 16]) (M' := M) rfl ⟨trivial, trivial, trivial, trivial, trivial⟩ ?_
    refine g_callV (s_setB _ (a := a) (b := b) ((nI 8) * v) (by omega) (by omega)) ok_X5_setDistance_X5_setBetween (by decide +kernel) rfl (c := 5) rfl (by decide) rfl (Nat.le_of_ble_eq_true rfl) (fun r N' h => ?_) rfl
    obtain ⟨hr, hN⟩ := h
    rw [hr, hN]
    show G _ 21 [some (.ref 16), some (.int (nI a)), some (.int (nI b)), some (.int v)] [] (stB M a b ((nI 8) * v)) _
    exact g_return (by decide +kernel) rfl ⟨rfl, by simp [*]⟩
theorem s_isOpen (M : Mem) {a : Nat} (ha : a < 9) : Spec mX5_isOpen [.ref 16, .int (nI a)] M (Ret (bI (decide (M 23 a < 0))) M) := by
  refine Spec.of (by decide) (by simp [Value.category]) (Nat.le_of_ble_eq_true rfl) ?_
  refine blk 5 [(.aload_n 0, 0, 0, 0), (.getfield 30, 5, 6, 0), (.iload_n 1, 0, 0, 0), (.iaload, 0, 0, 0)] [a] (by decide +kernel) rfl (pc' := 6) (ls' := [some (.ref 16), some (.int (nI a))]) (st' := [.int (M 23 a)]) (M' := M) rfl ⟨trivial, rfl, trivial, ⟨rfl, (by show _ < 9; omega)⟩, trivial⟩ ?_
  refine g_if_ge (off := 7) (tgt := 13) (by decide +kernel) (by decide) (fun c1 => ?_) (fun c1 => ?_)
  · refine blk 5 [(.iconst 0, 0, 0, (nI 0))] [] (by decide +kernel) rfl (pc' := 14) (ls' := [some (.ref 16), some (.int (nI a))]) (st' := [.int (nI 0)]) (M' := M) rfl ⟨trivial, trivial⟩ ?_
    refine g_ireturn (by decide +kernel) rfl (by decide +kernel) ⟨?_, rfl⟩
    rw [show decide (M 23 a < 0) = false from decide_eq_false (fun z => absurd c1 (Int32.not_le.mpr z))]; rfl
  · refine blk 5 [(.iconst 1, 0, 0, (nI 1)), (.goto (4), 14, 0, 0)] [] (by decide +kernel) rfl (pc' := 14) (ls' := [some (.ref 16), some (.int (nI a))]) (st' := [.int (nI 1)]) (M' := M) rfl ⟨trivial, trivial, trivial⟩ ?_
    refine g_ireturn (by decide +kernel) rfl (by decide +kernel) ⟨?_, rfl⟩
    rw [show decide (M 23 a < 0) = true from decide_eq_true (Int32.not_le.mp c1)]; rfl
def opF (M : Mem) : Nat → Int32 := fun x => if M 23 x < 0 then nI 1 else nI 0
def spF (M : Mem) (a b : Nat) : Nat → Int32 := fun x => if M 23 x < 0 then (if x = a then nI 0 else M (26 + a) x) + (if x = b then nI 0 else M (26 + b) x) else nI 0
def numM (M : Mem) (k a b : Nat) : Int32 := if M 16 11 = 0 then M (26 + a) b else (psum (opF M) k - nI 2) * M (26 + a) b - psum (spF M a b) k
def denM (M : Mem) (a b : Nat) : Int32 := if M 16 11 = 0 then M 21 a * M 21 b else nI 1
def bjM (M : Mem) (l r x : Nat) : Int32 := if M 16 11 = 0 then M (26 + l) x + M (26 + r) x else (M (26 + l) x + M (26 + r) x - M (26 + l) r) / nI 2
theorem l_num {M : Mem} {k a b : Nat} (hk : M 16 10 = nI k) (hk9 : k ≤ 9) (ha : a < 9) (hb : b < 9) (hsp : ¬ M 16 11 = 0) : ∀ d x, d = k - x → x ≤ k → G mX5_numerator 24 [some (.ref 16), some (.int (nI a)), some (.int (nI b)), some (.int (psum (opF M) x)), some (.int (psum (spF M a b) x)), some (.int (nI x))] [] M (Ret (numM M k a b) M) := by
  intro d
  induction d using Nat.strongRecOn with
  | ind d ih =>
    intro x hd hx
    refine blk 5 [(.iload 5, 0, 0, 0), (.aload_n 0, 0, 0, 0), (.getfield 49, 5, 10, 0)] [] (by decide +kernel) rfl (pc' := 30) (ls' := [some (.ref 16), some (.int (nI a)), some (.int (nI b)), some (.int (psum (opF M) x)), some (.int (psum (spF M a b) x)), some (.int (nI x))]) (st' := [.int (M 16 10), .int (nI x)]) (M' := M) rfl ⟨trivial, trivial, rfl, trivial⟩ ?_
    refine g_icmp_ge (off := 69) (tgt := 99) (by decide +kernel) (by decide) (fun c1 => ?_) (fun c1 => ?_)
    · have nc1 : k ≤ x := (nI_leI (by omega) (by omega)).mp (by simpa only [hk, nI_add, pk_mul, nI_s1, n0_lit] using c1)
      refine blk 5 [(.iload_n 3, 0, 0, 0), (.iconst 2, 0, 0, (nI 2)), (.isub, 0, 0, 0), (.aload_n 0, 0, 0, 0), (.getfield 38, 5, 8, 0), (.iload_n 1, 0, 0, 0), (.aaload, 0, 0, 0), (.iload_n 2, 0, 0, 0), (.iaload, 0, 0, 0), (.imul, 0, 0, 0), (.iload 4, 0, 0, 0), (.isub, 0, 0, 0)] [a, b] (by decide +kernel) rfl (pc' := 114) (ls' := [some (.ref 16), some (.int (nI a)), some (.int (nI b)), some (.int (psum (opF M) x)), some (.int (psum (spF M a b) x)), some (.int (nI x))]) (st' := [.int ((((psum (opF M) x) - (nI 2)) * (M (26 + a) b)) - (psum (spF M a b) x))]) (M' := M) rfl ⟨trivial, trivial, trivial, trivial, rfl, trivial, ⟨rfl, (by show _ < 9; omega)⟩, trivial, ⟨rfl, (Nat.lt_of_lt_of_eq (by omega : b < 9) (al26 (a := a) (by omega)).symm)⟩, trivial, trivial, trivial, trivial⟩ ?_
      have e : x = k := by omega
      subst e
      refine g_ireturn (by decide +kernel) rfl rfl ⟨?_, rfl⟩
      rw [numM, if_neg hsp]
    · have nc1 : x < k := by
        have z : ¬ nI k ≤ nI x := by simpa only [hk, nI_add, pk_mul, nI_s1, n0_lit] using c1
        rw [nI_leI (by omega) (by omega)] at z
        omega
      refine blk 5 [(.aload_n 0, 0, 0, 0), (.iload 5, 0, 0, 0)] [] (by decide +kernel) rfl (pc' := 36) (ls' := [some (.ref 16), some (.int (nI a)), some (.int (nI b)), some (.int (psum (opF M) x)), some (.int (psum (spF M a b) x)), some (.int (nI x))]) (st' := [.int (nI x), .ref 16]) (M' := M) rfl ⟨trivial, trivial, trivial⟩ ?_
      refine g_callV (s_isOpen _ (a := x) (by omega)) ok_X5_numerator_X5_isOpen (by decide +kernel) rfl (c := 5) rfl (by decide) rfl (Nat.le_of_ble_eq_true rfl) (fun r M' h => ?_) rfl
      obtain ⟨hr, hM⟩ := h
      rw [hr, hM]
      show G _ 39 [some (.ref 16), some (.int (nI a)), some (.int (nI b)), some (.int (psum (opF M) x)), some (.int (psum (spF M a b) x)), some (.int (nI x))] [.int (bI (decide (M 23 x < 0)))] M _
      refine g_if_eq (off := 54) (tgt := 93) (by decide +kernel) (by decide) (fun c2 => ?_) (fun c2 => ?_)
      · refine blk 5 [(.iinc 5 1, 0, 0, (nI 1)), (.goto (-72), 24, 0, 0)] [] (by decide +kernel) rfl (pc' := 24) (ls' := [some (.ref 16), some (.int (nI a)), some (.int (nI b)), some (.int (psum (opF M) x)), some (.int (psum (spF M a b) x)), some (.int (nI x + nI 1))]) (st' := []) (M' := M) rfl ⟨trivial, trivial, trivial⟩ ?_
        have o1 : ¬ M 23 x < 0 := of_decide_eq_false (bI_eq (by assumption))
        have e3 : psum (opF M) x = psum (opF M) (x + 1) := by rw [psum, opF, if_neg o1, nI_0, Int32.add_zero]
        have e4 : psum (spF M a b) x = psum (spF M a b) (x + 1) := by rw [psum, spF, if_neg o1, nI_0, Int32.add_zero]
        refine G.sub (ls' := [some (.ref 16), some (.int (nI a)), some (.int (nI b)), some (.int (psum (opF M) (x + 1))), some (.int (psum (spF M a b) (x + 1))), some (.int (nI (x + 1)))]) ?_ ⟨rfl, rfl, rfl, congrArg (fun z => some (Value.int z)) e3, congrArg (fun z => some (Value.int z)) e4, congrArg (fun z => some (Value.int z)) (by simp only [nI_add, nI_s1]), trivial⟩
        exact ih (d - 1) (by omega) (x + 1) (by omega) (by omega)
      · refine blk 5 [(.iinc 3 1, 0, 0, (nI 1)), (.iload 4, 0, 0, 0), (.iload 5, 0, 0, 0), (.iload_n 1, 0, 0, 0)] [] (by decide +kernel) rfl (pc' := 50) (ls' := [some (.ref 16), some (.int (nI a)), some (.int (nI b)), some (.int (psum (opF M) x + nI 1)), some (.int (psum (spF M a b) x)), some (.int (nI x))]) (st' := [.int (nI a), .int (nI x), .int (psum (spF M a b) x)]) (M' := M) rfl ⟨trivial, trivial, trivial, trivial, trivial⟩ ?_
        refine g_icmp_ne (off := 7) (tgt := 57) (by decide +kernel) (by decide) (fun c3 => ?_) (fun c3 => ?_)
        · have nc3 : x ≠ a := by
            have z : ¬ nI x = nI a := by simpa only [hk, nI_add, pk_mul, nI_s1, n0_lit] using c3
            rw [nI_eq (by omega) (by omega)] at z
            omega
          refine blk 5 [(.aload_n 0, 0, 0, 0), (.getfield 38, 5, 8, 0), (.iload_n 1, 0, 0, 0), (.aaload, 0, 0, 0), (.iload 5, 0, 0, 0), (.iaload, 0, 0, 0), (.iadd, 0, 0, 0), (.istore 4, 0, 0, 0), (.iload 4, 0, 0, 0), (.iload 5, 0, 0, 0), (.iload_n 2, 0, 0, 0)] [a, x] (by decide +kernel) rfl (pc' := 74) (ls' := [some (.ref 16), some (.int (nI a)), some (.int (nI b)), some (.int (psum (opF M) x + nI 1)), some (.int ((psum (spF M a b) x) + (M (26 + a) x))), some (.int (nI x))]) (st' := [.int (nI b), .int (nI x), .int ((psum (spF M a b) x) + (M (26 + a) x))]) (M' := M) rfl ⟨trivial, rfl, trivial, ⟨rfl, (by show _ < 9; omega)⟩, trivial, ⟨rfl, (Nat.lt_of_lt_of_eq (by omega : x < 9) (al26 (a := a) (by omega)).symm)⟩, trivial, trivial, trivial, trivial, trivial, trivial⟩ ?_
          refine g_icmp_ne (off := 7) (tgt := 81) (by decide +kernel) (by decide) (fun c4 => ?_) (fun c4 => ?_)
          · have nc4 : x ≠ b := by
              have z : ¬ nI x = nI b := by simpa only [hk, nI_add, pk_mul, nI_s1, n0_lit] using c4
              rw [nI_eq (by omega) (by omega)] at z
              omega
            refine blk 5 [(.aload_n 0, 0, 0, 0), (.getfield 38, 5, 8, 0), (.iload_n 2, 0, 0, 0), (.aaload, 0, 0, 0), (.iload 5, 0, 0, 0), (.iaload, 0, 0, 0), (.iadd, 0, 0, 0), (.istore 4, 0, 0, 0), (.iinc 5 1, 0, 0, (nI 1)), (.goto (-72), 24, 0, 0)] [b, x] (by decide +kernel) rfl (pc' := 24) (ls' := [some (.ref 16), some (.int (nI a)), some (.int (nI b)), some (.int (psum (opF M) x + nI 1)), some (.int (((psum (spF M a b) x) + (M (26 + a) x)) + (M (26 + b) x))), some (.int (nI x + nI 1))]) (st' := []) (M' := M) rfl ⟨trivial, rfl, trivial, ⟨rfl, (by show _ < 9; omega)⟩, trivial, ⟨rfl, (Nat.lt_of_lt_of_eq (by omega : x < 9) (al26 (a := b) (by omega)).symm)⟩, trivial, trivial, trivial, trivial, trivial⟩ ?_
            have o1 : M 23 x < 0 := of_decide_eq_true (bI_ne (by assumption))
            have e3 : psum (opF M) x + nI 1 = psum (opF M) (x + 1) := by rw [psum, opF, if_pos o1]
            have e4 : ((psum (spF M a b) x) + (M (26 + a) x)) + (M (26 + b) x) = psum (spF M a b) (x + 1) := by rw [psum, spF, if_pos o1, ← Int32.add_assoc]; first | (rw [if_pos (by omega), if_pos (by omega)]; done) | (rw [if_pos (by omega), if_neg (by omega)]; done) | (rw [if_neg (by omega), if_pos (by omega)]; done) | (rw [if_neg (by omega), if_neg (by omega)]; done)
            refine G.sub (ls' := [some (.ref 16), some (.int (nI a)), some (.int (nI b)), some (.int (psum (opF M) (x + 1))), some (.int (psum (spF M a b) (x + 1))), some (.int (nI (x + 1)))]) ?_ ⟨rfl, rfl, rfl, congrArg (fun z => some (Value.int z)) e3, congrArg (fun z => some (Value.int z)) e4, congrArg (fun z => some (Value.int z)) (by simp only [nI_add, nI_s1]), trivial⟩
            exact ih (d - 1) (by omega) (x + 1) (by omega) (by omega)
          · have nc4 : x = b := (nI_eq (by omega) (by omega)).mp (by simpa only [hk, nI_add, pk_mul, nI_s1, n0_lit] using c4)
            refine blk 5 [(.iconst 0, 0, 0, (nI 0)), (.goto (12), 90, 0, 0), (.iadd, 0, 0, 0), (.istore 4, 0, 0, 0), (.iinc 5 1, 0, 0, (nI 1)), (.goto (-72), 24, 0, 0)] [] (by decide +kernel) rfl (pc' := 24) (ls' := [some (.ref 16), some (.int (nI a)), some (.int (nI b)), some (.int (psum (opF M) x + nI 1)), some (.int (((psum (spF M a b) x) + (M (26 + a) x)) + (nI 0))), some (.int (nI x + nI 1))]) (st' := []) (M' := M) rfl ⟨trivial, trivial, trivial, trivial, trivial, trivial, trivial⟩ ?_
            have o1 : M 23 x < 0 := of_decide_eq_true (bI_ne (by assumption))
            have e3 : psum (opF M) x + nI 1 = psum (opF M) (x + 1) := by rw [psum, opF, if_pos o1]
            have e4 : ((psum (spF M a b) x) + (M (26 + a) x)) + (nI 0) = psum (spF M a b) (x + 1) := by rw [psum, spF, if_pos o1, ← Int32.add_assoc]; first | (rw [if_pos (by omega), if_pos (by omega)]; done) | (rw [if_pos (by omega), if_neg (by omega)]; done) | (rw [if_neg (by omega), if_pos (by omega)]; done) | (rw [if_neg (by omega), if_neg (by omega)]; done)
            refine G.sub (ls' := [some (.ref 16), some (.int (nI a)), some (.int (nI b)), some (.int (psum (opF M) (x + 1))), some (.int (psum (spF M a b) (x + 1))), some (.int (nI (x + 1)))]) ?_ ⟨rfl, rfl, rfl, congrArg (fun z => some (Value.int z)) e3, congrArg (fun z => some (Value.int z)) e4, congrArg (fun z => some (Value.int z)) (by simp only [nI_add, nI_s1]), trivial⟩
            exact ih (d - 1) (by omega) (x + 1) (by omega) (by omega)
        · have nc3 : x = a := (nI_eq (by omega) (by omega)).mp (by simpa only [hk, nI_add, pk_mul, nI_s1, n0_lit] using c3)
          refine blk 5 [(.iconst 0, 0, 0, (nI 0)), (.goto (12), 66, 0, 0), (.iadd, 0, 0, 0), (.istore 4, 0, 0, 0), (.iload 4, 0, 0, 0), (.iload 5, 0, 0, 0), (.iload_n 2, 0, 0, 0)] [] (by decide +kernel) rfl (pc' := 74) (ls' := [some (.ref 16), some (.int (nI a)), some (.int (nI b)), some (.int (psum (opF M) x + nI 1)), some (.int ((psum (spF M a b) x) + (nI 0))), some (.int (nI x))]) (st' := [.int (nI b), .int (nI x), .int ((psum (spF M a b) x) + (nI 0))]) (M' := M) rfl ⟨trivial, trivial, trivial, trivial, trivial, trivial, trivial, trivial⟩ ?_
          refine g_icmp_ne (off := 7) (tgt := 81) (by decide +kernel) (by decide) (fun c5 => ?_) (fun c5 => ?_)
          · have nc5 : x ≠ b := by
              have z : ¬ nI x = nI b := by simpa only [hk, nI_add, pk_mul, nI_s1, n0_lit] using c5
              rw [nI_eq (by omega) (by omega)] at z
              omega
            refine blk 5 [(.aload_n 0, 0, 0, 0), (.getfield 38, 5, 8, 0), (.iload_n 2, 0, 0, 0), (.aaload, 0, 0, 0), (.iload 5, 0, 0, 0), (.iaload, 0, 0, 0), (.iadd, 0, 0, 0), (.istore 4, 0, 0, 0), (.iinc 5 1, 0, 0, (nI 1)), (.goto (-72), 24, 0, 0)] [b, x] (by decide +kernel) rfl (pc' := 24) (ls' := [some (.ref 16), some (.int (nI a)), some (.int (nI b)), some (.int (psum (opF M) x + nI 1)), some (.int (((psum (spF M a b) x) + (nI 0)) + (M (26 + b) x))), some (.int (nI x + nI 1))]) (st' := []) (M' := M) rfl ⟨trivial, rfl, trivial, ⟨rfl, (by show _ < 9; omega)⟩, trivial, ⟨rfl, (Nat.lt_of_lt_of_eq (by omega : x < 9) (al26 (a := b) (by omega)).symm)⟩, trivial, trivial, trivial, trivial, trivial⟩ ?_
            have o1 : M 23 x < 0 := of_decide_eq_true (bI_ne (by assumption))
            have e3 : psum (opF M) x + nI 1 = psum (opF M) (x + 1) := by rw [psum, opF, if_pos o1]
            have e4 : ((psum (spF M a b) x) + (nI 0)) + (M (26 + b) x) = psum (spF M a b) (x + 1) := by rw [psum, spF, if_pos o1, ← Int32.add_assoc]; first | (rw [if_pos (by omega), if_pos (by omega)]; done) | (rw [if_pos (by omega), if_neg (by omega)]; done) | (rw [if_neg (by omega), if_pos (by omega)]; done) | (rw [if_neg (by omega), if_neg (by omega)]; done)
            refine G.sub (ls' := [some (.ref 16), some (.int (nI a)), some (.int (nI b)), some (.int (psum (opF M) (x + 1))), some (.int (psum (spF M a b) (x + 1))), some (.int (nI (x + 1)))]) ?_ ⟨rfl, rfl, rfl, congrArg (fun z => some (Value.int z)) e3, congrArg (fun z => some (Value.int z)) e4, congrArg (fun z => some (Value.int z)) (by simp only [nI_add, nI_s1]), trivial⟩
            exact ih (d - 1) (by omega) (x + 1) (by omega) (by omega)
          · have nc5 : x = b := (nI_eq (by omega) (by omega)).mp (by simpa only [hk, nI_add, pk_mul, nI_s1, n0_lit] using c5)
            refine blk 5 [(.iconst 0, 0, 0, (nI 0)), (.goto (12), 90, 0, 0), (.iadd, 0, 0, 0), (.istore 4, 0, 0, 0), (.iinc 5 1, 0, 0, (nI 1)), (.goto (-72), 24, 0, 0)] [] (by decide +kernel) rfl (pc' := 24) (ls' := [some (.ref 16), some (.int (nI a)), some (.int (nI b)), some (.int (psum (opF M) x + nI 1)), some (.int (((psum (spF M a b) x) + (nI 0)) + (nI 0))), some (.int (nI x + nI 1))]) (st' := []) (M' := M) rfl ⟨trivial, trivial, trivial, trivial, trivial, trivial, trivial⟩ ?_
            have o1 : M 23 x < 0 := of_decide_eq_true (bI_ne (by assumption))
            have e3 : psum (opF M) x + nI 1 = psum (opF M) (x + 1) := by rw [psum, opF, if_pos o1]
            have e4 : ((psum (spF M a b) x) + (nI 0)) + (nI 0) = psum (spF M a b) (x + 1) := by rw [psum, spF, if_pos o1, ← Int32.add_assoc]; first | (rw [if_pos (by omega), if_pos (by omega)]; done) | (rw [if_pos (by omega), if_neg (by omega)]; done) | (rw [if_neg (by omega), if_pos (by omega)]; done) | (rw [if_neg (by omega), if_neg (by omega)]; done)
            refine G.sub (ls' := [some (.ref 16), some (.int (nI a)), some (.int (nI b)), some (.int (psum (opF M) (x + 1))), some (.int (psum (spF M a b) (x + 1))), some (.int (nI (x + 1)))]) ?_ ⟨rfl, rfl, rfl, congrArg (fun z => some (Value.int z)) e3, congrArg (fun z => some (Value.int z)) e4, congrArg (fun z => some (Value.int z)) (by simp only [nI_add, nI_s1]), trivial⟩
            exact ih (d - 1) (by omega) (x + 1) (by omega) (by omega)
theorem s_num (M : Mem) {k a b : Nat} (hk : M 16 10 = nI k) (hk9 : k ≤ 9) (ha : a < 9) (hb : b < 9) : Spec mX5_numerator [.ref 16, .int (nI a), .int (nI b)] M (Ret (numM M k a b) M) := by
  refine Spec.of (by decide) (by simp [Value.category]) (Nat.le_of_ble_eq_true rfl) ?_
  refine blk 5 [(.aload_n 0, 0, 0, 0), (.getfield 41, 5, 11, 0)] [] (by decide +kernel) rfl (pc' := 4) (ls' := [some (.ref 16), some (.int (nI a)), some (.int (nI b)), none, none, none]) (st' := [.int (M 16 11)]) (M' := M) rfl ⟨trivial, rfl, trivial⟩ ?_
  refine g_if_ne (off := 12) (tgt := 16) (by decide +kernel) (by decide) (fun c1 => ?_) (fun c1 => ?_)
  · refine blk 5 [(.iconst 0, 0, 0, (nI 0)), (.istore_n 3, 0, 0, 0), (.iconst 0, 0, 0, (nI 0)), (.istore 4, 0, 0, 0), (.iconst 0, 0, 0, (nI 0)), (.istore 5, 0, 0, 0)] [] (by decide +kernel) rfl (pc' := 24) (ls' := [some (.ref 16), some (.int (nI a)), some (.int (nI b)), some (.int (nI 0)), some (.int (nI 0)), some (.int (nI 0))]) (st' := []) (M' := M) rfl ⟨trivial, trivial, trivial, trivial, trivial, trivial, trivial⟩ ?_
    refine G.sub (ls' := [some (.ref 16), some (.int (nI a)), some (.int (nI b)), some (.int (psum (opF M) 0)), some (.int (psum (spF M a b) 0)), some (.int (nI 0))]) ?_ ⟨rfl, rfl, rfl, congrArg (fun z => some (Value.int z)) nI_0, congrArg (fun z => some (Value.int z)) nI_0, rfl, trivial⟩
    exact l_num hk hk9 ha hb (by assumption) _ 0 rfl (by omega)
  · refine blk 5 [(.aload_n 0, 0, 0, 0), (.getfield 38, 5, 8, 0), (.iload_n 1, 0, 0, 0), (.aaload, 0, 0, 0), (.iload_n 2, 0, 0, 0), (.iaload, 0, 0, 0)] [a, b] (by decide +kernel) rfl (pc' := 15) (ls' := [some (.ref 16), some (.int (nI a)), some (.int (nI b)), none, none, none]) (st' := [.int (M (26 + a) b)]) (M' := M) rfl ⟨trivial, rfl, trivial, ⟨rfl, (by show _ < 9; omega)⟩, trivial, ⟨rfl, (Nat.lt_of_lt_of_eq (by omega : b < 9) (al26 (a := a) (by omega)).symm)⟩, trivial⟩ ?_
    exact g_ireturn (by decide +kernel) rfl rfl ⟨by rw [numM, if_pos (by assumption)], rfl⟩
theorem s_den (M : Mem) {a b : Nat} (ha : a < 9) (hb : b < 9) : Spec mX5_denominator [.ref 16, .int (nI a), .int (nI b)] M (Ret (denM M a b) M) := by
  refine Spec.of (by decide) (by simp [Value.category]) (Nat.le_of_ble_eq_true rfl) ?_
  refine blk 5 [(.aload_n 0, 0, 0, 0), (.getfield 41, 5, 11, 0)] [] (by decide +kernel) rfl (pc' := 4) (ls' := [some (.ref 16), some (.int (nI a)), some (.int (nI b))]) (st' := [.int (M 16 11)]) (M' := M) rfl ⟨trivial, rfl, trivial⟩ ?_
  refine g_if_eq (off := 7) (tgt := 11) (by decide +kernel) (by decide) (fun c1 => ?_) (fun c1 => ?_)
  · refine blk 5 [(.aload_n 0, 0, 0, 0), (.getfield 24, 5, 4, 0), (.iload_n 1, 0, 0, 0), (.iaload, 0, 0, 0), (.aload_n 0, 0, 0, 0), (.getfield 24, 5, 4, 0), (.iload_n 2, 0, 0, 0), (.iaload, 0, 0, 0), (.imul, 0, 0, 0)] [a, b] (by decide +kernel) rfl (pc' := 24) (ls' := [some (.ref 16), some (.int (nI a)), some (.int (nI b))]) (st' := [.int ((M 21 a) * (M 21 b))]) (M' := M) rfl ⟨trivial, rfl, trivial, ⟨rfl, (by show _ < 9; omega)⟩, trivial, rfl, trivial, ⟨rfl, (by show _ < 9; omega)⟩, trivial, trivial⟩ ?_
    exact g_ireturn (by decide +kernel) rfl rfl ⟨by unfold denM; simp [*], rfl⟩
  · refine blk 5 [(.iconst 1, 0, 0, (nI 1)), (.goto (16), 24, 0, 0)] [] (by decide +kernel) rfl (pc' := 24) (ls' := [some (.ref 16), some (.int (nI a)), some (.int (nI b))]) (st' := [.int (nI 1)]) (M' := M) rfl ⟨trivial, trivial, trivial⟩ ?_
    exact g_ireturn (by decide +kernel) rfl rfl ⟨by unfold denM; simp [*], rfl⟩
def nrM (M : Mem) (k a b l r : Nat) : Bool := decide (numM M k a b * denM M l r < numM M k l r * denM M a b)
theorem s_near (M : Mem) {k a b l q : Nat} (hk : M 16 10 = nI k) (hk9 : k ≤ 9) (ha : a < 9) (hb : b < 9) (hl : l < 9) (hq : q < 9) : Spec mX5_isNearer [.ref 16, .int (nI a), .int (nI b), .int (nI l), .int (nI q)] M (Ret (bI (nrM M k a b l q)) M) := by
  refine Spec.of (by decide) (by simp [Value.category]) (Nat.le_of_ble_eq_true rfl) ?_
  refine blk 5 [(.aload_n 0, 0, 0, 0), (.iload_n 1, 0, 0, 0), (.iload_n 2, 0, 0, 0)] [] (by decide +kernel) rfl (pc' := 3) (ls' := [some (.ref 16), some (.int (nI a)), some (.int (nI b)), some (.int (nI l)), some (.int (nI q))]) (st' := [.int (nI b), .int (nI a), .ref 16]) (M' := M) rfl ⟨trivial, trivial, trivial, trivial⟩ ?_
  refine g_callV (s_num M (k := k) (a := a) (b := b) hk hk9 (by omega) (by omega)) ok_X5_isNearer_X5_numerator (by decide +kernel) rfl (c := 5) rfl (by decide) rfl (Nat.le_of_ble_eq_true rfl) (fun r M' h => ?_) rfl
  obtain ⟨hr, hM⟩ := h
  rw [hr, hM]
  show G _ 6 [some (.ref 16), some (.int (nI a)), some (.int (nI b)), some (.int (nI l)), some (.int (nI q))] [.int (numM M k a b)] M _
  refine blk 5 [(.aload_n 0, 0, 0, 0), (.iload_n 3, 0, 0, 0), (.iload 4, 0, 0, 0)] [] (by decide +kernel) rfl (pc' := 10) (ls' := [some (.ref 16), some (.int (nI a)), some (.int (nI b)), some (.int (nI l)), some (.int (nI q))]) (st' := [.int (nI q), .int (nI l), .ref 16, .int (numM M k a b)]) (M' := M) rfl ⟨trivial, trivial, trivial, trivial⟩ ?_
  refine g_callV (s_den M (a := l) (b := q) (by omega) (by omega)) ok_X5_isNearer_X5_denominator (by decide +kernel) rfl (c := 5) rfl (by decide) rfl (Nat.le_of_ble_eq_true rfl) (fun r M' h => ?_) rfl
  obtain ⟨hr, hM⟩ := h
  rw [hr, hM]
  show G _ 13 [some (.ref 16), some (.int (nI a)), some (.int (nI b)), some (.int (nI l)), some (.int (nI q))] [.int (denM M l q), .int (numM M k a b)] M _
  refine blk 5 [(.imul, 0, 0, 0), (.aload_n 0, 0, 0, 0), (.iload_n 3, 0, 0, 0), (.iload 4, 0, 0, 0)] [] (by decide +kernel) rfl (pc' := 18) (ls' := [some (.ref 16), some (.int (nI a)), some (.int (nI b)), some (.int (nI l)), some (.int (nI q))]) (st' := [.int (nI q), .int (nI l), .ref 16, .int ((numM M k a b) * (denM M l q))]) (M' := M) rfl ⟨trivial, trivial, trivial, trivial, trivial⟩ ?_
  refine g_callV (s_num M (k := k) (a := l) (b := q) hk hk9 (by omega) (by omega)) ok_X5_isNearer_X5_numerator (by decide +kernel) rfl (c := 5) rfl (by decide) rfl (Nat.le_of_ble_eq_true rfl) (fun r M' h => ?_) rfl
  obtain ⟨hr, hM⟩ := h
  rw [hr, hM]
  show G _ 21 [some (.ref 16), some (.int (nI a)), some (.int (nI b)), some (.int (nI l)), some (.int (nI q))] [.int (numM M k l q), .int ((numM M k a b) * (denM M l q))] M _
  refine blk 5 [(.aload_n 0, 0, 0, 0), (.iload_n 1, 0, 0, 0), (.iload_n 2, 0, 0, 0)] [] (by decide +kernel) rfl (pc' := 24) (ls' := [some (.ref 16), some (.int (nI a)), some (.int (nI b)), some (.int (nI l)), some (.int (nI q))]) (st' := [.int (nI b), .int (nI a), .ref 16, .int (numM M k l q), .int ((numM M k a b) * (denM M l q))]) (M' := M) rfl ⟨trivial, trivial, trivial, trivial⟩ ?_
  refine g_callV (s_den M (a := a) (b := b) (by omega) (by omega)) ok_X5_isNearer_X5_denominator (by decide +kernel) rfl (c := 5) rfl (by decide) rfl (Nat.le_of_ble_eq_true rfl) (fun r M' h => ?_) rfl
  obtain ⟨hr, hM⟩ := h
  rw [hr, hM]
  show G _ 27 [some (.ref 16), some (.int (nI a)), some (.int (nI b)), some (.int (nI l)), some (.int (nI q))] [.int (denM M a b), .int (numM M k l q), .int ((numM M k a b) * (denM M l q))] M _
  refine blk 5 [(.imul, 0, 0, 0)] [] (by decide +kernel) rfl (pc' := 28) (ls' := [some (.ref 16), some (.int (nI a)), some (.int (nI b)), some (.int (nI l)), some (.int (nI q))]) (st' := [.int ((numM M k l q) * (denM M a b)), .int ((numM M k a b) * (denM M l q))]) (M' := M) rfl ⟨trivial, trivial⟩ ?_
  refine g_icmp_ge (off := 7) (tgt := 35) (by decide +kernel) (by decide) (fun c1 => ?_) (fun c1 => ?_)
  · refine blk 5 [(.iconst 0, 0, 0, (nI 0))] [] (by decide +kernel) rfl (pc' := 36) (ls' := [some (.ref 16), some (.int (nI a)), some (.int (nI b)), some (.int (nI l)), some (.int (nI q))]) (st' := [.int (nI 0)]) (M' := M) rfl ⟨trivial, trivial⟩ ?_
    refine g_ireturn (by decide +kernel) rfl (by decide +kernel) ⟨?_, rfl⟩
    rw [show nrM M k a b l q = false from decide_eq_false (fun z => absurd c1 (Int32.not_le.mpr z))]; rfl
  · refine blk 5 [(.iconst 1, 0, 0, (nI 1)), (.goto (4), 36, 0, 0)] [] (by decide +kernel) rfl (pc' := 36) (ls' := [some (.ref 16), some (.int (nI a)), some (.int (nI b)), some (.int (nI l)), some (.int (nI q))]) (st' := [.int (nI 1)]) (M' := M) rfl ⟨trivial, trivial, trivial⟩ ?_
    refine g_ireturn (by decide +kernel) rfl (by decide +kernel) ⟨?_, rfl⟩
    rw [show nrM M k a b l q = true from decide_eq_true (Int32.not_le.mp c1)]; rfl
theorem n2_ne : ¬ nI 2 = 0 := by decide +kernel
theorem s_bj (M : Mem) {l r x : Nat} (hl : l < 9) (hr' : r < 9) (hx : x < 9) : Spec mX5_betweenJoined [.ref 16, .int (nI l), .int (nI r), .int (nI x)] M (Ret (bjM M l r x) M) := by
  refine Spec.of (by decide) (by simp [Value.category]) (Nat.le_of_ble_eq_true rfl) ?_
  refine blk 5 [(.aload_n 0, 0, 0, 0), (.getfield 38, 5, 8, 0), (.iload_n 1, 0, 0, 0), (.aaload, 0, 0, 0), (.iload_n 3, 0, 0, 0), (.iaload, 0, 0, 0), (.aload_n 0, 0, 0, 0), (.getfield 38, 5, 8, 0), (.iload_n 2, 0, 0, 0), (.aaload, 0, 0, 0), (.iload_n 3, 0, 0, 0), (.iaload, 0, 0, 0), (.iadd, 0, 0, 0), (.istore 4, 0, 0, 0), (.aload_n 0, 0, 0, 0), (.getfield 41, 5, 11, 0)] [l, x, r, x] (by decide +kernel) rfl (pc' := 23) (ls' := [some (.ref 16), some (.int (nI l)), some (.int (nI r)), some (.int (nI x)), some (.int ((M (26 + l) x) + (M (26 + r) x)))]) (st' := [.int (M 16 11)]) (M' := M) rfl ⟨trivial, rfl, trivial, ⟨rfl, (by show _ < 9; omega)⟩, trivial, ⟨rfl, (Nat.lt_of_lt_of_eq (by omega : x < 9) (al26 (a := l) (by omega)).symm)⟩, trivial, rfl, trivial, ⟨rfl, (by show _ < 9; omega)⟩, trivial, ⟨rfl, (Nat.lt_of_lt_of_eq (by omega : x < 9) (al26 (a := r) (by omega)).symm)⟩, trivial, trivial, trivial, rfl, trivial⟩ ?_
  refine g_if_eq (off := 19) (tgt := 42) (by decide +kernel) (by decide) (fun c1 => ?_) (fun c1 => ?_)
  · refine blk 5 [(.iload 4, 0, 0, 0)] [] (by decide +kernel) rfl (pc' := 44) (ls' := [some (.ref 16), some (.int (nI l)), some (.int (nI r)), some (.int (nI x)), some (.int ((M (26 + l) x) + (M (26 + r) x)))]) (st' := [.int ((M (26 + l) x) + (M (26 + r) x))]) (M' := M) rfl ⟨trivial, trivial⟩ ?_
    exact g_ireturn (by decide +kernel) rfl rfl ⟨by unfold bjM; simp [*], rfl⟩
  · refine blk 5 [(.iload 4, 0, 0, 0), (.aload_n 0, 0, 0, 0), (.getfield 38, 5, 8, 0), (.iload_n 1, 0, 0, 0), (.aaload, 0, 0, 0), (.iload_n 2, 0, 0, 0), (.iaload, 0, 0, 0), (.isub, 0, 0, 0), (.iconst 2, 0, 0, (nI 2)), (.idiv, 0, 0, 0), (.goto (5), 44, 0, 0)] [l, r] (by decide +kernel) rfl (pc' := 44) (ls' := [some (.ref 16), some (.int (nI l)), some (.int (nI r)), some (.int (nI x)), some (.int ((M (26 + l) x) + (M (26 + r) x)))]) (st' := [.int ((((M (26 + l) x) + (M (26 + r) x)) - (M (26 + l) r)) / (nI 2))]) (M' := M) rfl ⟨trivial, trivial, rfl, trivial, ⟨rfl, (by show _ < 9; omega)⟩, trivial, ⟨rfl, (Nat.lt_of_lt_of_eq (by omega : r < 9) (al26 (a := l) (by omega)).symm)⟩, trivial, trivial, n2_ne, trivial, trivial⟩ ?_
    exact g_ireturn (by decide +kernel) rfl rfl ⟨by unfold bjM; simp [*], rfl⟩
def clF (M : Mem) (pa : Nat → Nat) (w : Nat) : Nat → Int32 := fun k => if hb (M 20 k) w = 0 then nI 0 else (M 22 (pa k) - M 22 k) / M 21 k
theorem l_climb {M : Mem} {m w : Nat} {pa : Nat → Nat} (hm : M 16 10 = nI (m + 1)) (hm9 : m < 9) (hw : w < 5) (hsz : ∀ k, k < m → ¬ M 21 k = 0) (hpa : ∀ k, k < m → ¬ hb (M 20 k) w = 0 → M 23 k = nI (pa k) ∧ pa k < 9) : ∀ d k, d = m - k → k ≤ m → G mX5_climb 4 [some (.ref 16), some (.int (nI w)), some (.int (psum (clF M pa w) k)), some (.int (nI k))] [] M (Ret (psum (clF M pa w) m) M) := by
  intro d
  induction d using Nat.strongRecOn with
  | ind d ih =>
    intro k hd hk
    refine blk 5 [(.iload_n 3, 0, 0, 0), (.aload_n 0, 0, 0, 0), (.getfield 49, 5, 10, 0), (.iconst 1, 0, 0, (nI 1)), (.isub, 0, 0, 0)] [] (by decide +kernel) rfl (pc' := 11) (ls' := [some (.ref 16), some (.int (nI w)), some (.int (psum (clF M pa w) k)), some (.int (nI k))]) (st' := [.int ((M 16 10) - (nI 1)), .int (nI k)]) (M' := M) rfl ⟨trivial, trivial, rfl, trivial, trivial, trivial⟩ ?_
    refine g_icmp_ge (off := 50) (tgt := 61) (by decide +kernel) (by decide) (fun c1 => ?_) (fun c1 => ?_)
    · have nc1 : m ≤ k := (nI_leI (by omega) (by omega)).mp (by simpa only [hm, nI_add, pk_mul, nI_s1, n0_lit] using c1)
      refine blk 5 [(.iload_n 2, 0, 0, 0)] [] (by decide +kernel) rfl (pc' := 62) (ls' := [some (.ref 16), some (.int (nI w)), some (.int (psum (clF M pa w) k)), some (.int (nI k))]) (st' := [.int (psum (clF M pa w) k)]) (M' := M) rfl ⟨trivial, trivial⟩ ?_
      have e : k = m := by omega
      subst e
      exact g_ireturn (by decide +kernel) rfl rfl ⟨rfl, rfl⟩
    · have nc1 : k < m := by
        have z : ¬ nI m ≤ nI k := by simpa only [hm, nI_add, pk_mul, nI_s1, n0_lit] using c1
        rw [nI_leI (by omega) (by omega)] at z
        omega
      refine blk 5 [(.aload_n 0, 0, 0, 0), (.getfield 21, 5, 3, 0), (.iload_n 3, 0, 0, 0), (.iaload, 0, 0, 0), (.iload_n 1, 0, 0, 0)] [k] (by decide +kernel) rfl (pc' := 21) (ls' := [some (.ref 16), some (.int (nI w)), some (.int (psum (clF M pa w) k)), some (.int (nI k))]) (st' := [.int (nI w), .int (M 20 k)]) (M' := M) rfl ⟨trivial, rfl, trivial, ⟨rfl, (by show _ < 9; omega)⟩, trivial, trivial⟩ ?_
      refine g_callN (index := 83) (s_holds _ (M 20 k) w) rfl (by decide) ⟨ok_X6_holds.1, ok_X6_holds.2.1, ok_X6_holds.2.2.1, ok_X6_holds.2.2.2, by decide +kernel, by decide +kernel⟩ (by decide +kernel) rfl (Nat.le_of_ble_eq_true rfl) (fun r M' h => ?_) rfl
      obtain ⟨hr, hM⟩ := h
      rw [hr, hM]
      show G _ 24 [some (.ref 16), some (.int (nI w)), some (.int (psum (clF M pa w) k)), some (.int (nI k))] [.int (hb (M 20 k) w)] M _
      refine g_if_eq (off := 31) (tgt := 55) (by decide +kernel) (by decide) (fun c2 => ?_) (fun c2 => ?_)
      · refine blk 5 [(.iinc 3 1, 0, 0, (nI 1)), (.goto (-54), 4, 0, 0)] [] (by decide +kernel) rfl (pc' := 4) (ls' := [some (.ref 16), some (.int (nI w)), some (.int (psum (clF M pa w) k)), some (.int (nI k + nI 1))]) (st' := []) (M' := M) rfl ⟨trivial, trivial, trivial⟩ ?_
        have e : psum (clF M pa w) k = psum (clF M pa w) (k + 1) := by rw [psum, clF, if_pos (by assumption), nI_0, Int32.add_zero]
        refine G.sub (ls' := [some (.ref 16), some (.int (nI w)), some (.int (psum (clF M pa w) (k + 1))), some (.int (nI (k + 1)))]) ?_ ⟨rfl, rfl, congrArg (fun z => some (Value.int z)) e, congrArg (fun z => some (Value.int z)) (by simp only [nI_add, nI_s1]), trivial⟩
        exact ih (d - 1) (by omega) (k + 1) (by omega) (by omega)
      · refine blk 5 [(.iload_n 2, 0, 0, 0), (.aload_n 0, 0, 0, 0), (.getfield 27, 5, 5, 0), (.aload_n 0, 0, 0, 0), (.getfield 30, 5, 6, 0), (.iload_n 3, 0, 0, 0), (.iaload, 0, 0, 0), (.iaload, 0, 0, 0), (.aload_n 0, 0, 0, 0), (.getfield 27, 5, 5, 0), (.iload_n 3, 0, 0, 0), (.iaload, 0, 0, 0), (.isub, 0, 0, 0), (.aload_n 0, 0, 0, 0), (.getfield 24, 5, 4, 0), (.iload_n 3, 0, 0, 0), (.iaload, 0, 0, 0), (.idiv, 0, 0, 0), (.iadd, 0, 0, 0), (.istore_n 2, 0, 0, 0), (.iinc 3 1, 0, 0, (nI 1)), (.goto (-54), 4, 0, 0)] [k, pa k, k, k] (by decide +kernel) rfl (pc' := 4) (ls' := [some (.ref 16), some (.int (nI w)), some (.int ((psum (clF M pa w) k) + (((M 22 (pa k)) - (M 22 k)) / (M 21 k)))), some (.int (nI k + nI 1))]) (st' := []) (M' := M) rfl ⟨trivial, trivial, rfl, trivial, rfl, trivial, ⟨rfl, (by show _ < 9; omega)⟩, ⟨(hpa k (by omega) (by assumption)).1, (hpa k (by omega) (by assumption)).2⟩, trivial, rfl, trivial, ⟨rfl, (by show _ < 9; omega)⟩, trivial, trivial, rfl, trivial, ⟨rfl, (by show _ < 9; omega)⟩, (hsz k (by omega)), trivial, trivial, trivial, trivial, trivial⟩ ?_
        have e : (psum (clF M pa w) k) + (((M 22 (pa k)) - (M 22 k)) / (M 21 k)) = psum (clF M pa w) (k + 1) := by rw [psum, clF, if_neg (by assumption)]
        refine G.sub (ls' := [some (.ref 16), some (.int (nI w)), some (.int (psum (clF M pa w) (k + 1))), some (.int (nI (k + 1)))]) ?_ ⟨rfl, rfl, congrArg (fun z => some (Value.int z)) e, congrArg (fun z => some (Value.int z)) (by simp only [nI_add, nI_s1]), trivial⟩
        exact ih (d - 1) (by omega) (k + 1) (by omega) (by omega)
theorem s_climb (M : Mem) {m w : Nat} {pa : Nat → Nat} (hm : M 16 10 = nI (m + 1)) (hm9 : m < 9) (hw : w < 5) (hsz : ∀ k, k < m → ¬ M 21 k = 0) (hpa : ∀ k, k < m → ¬ hb (M 20 k) w = 0 → M 23 k = nI (pa k) ∧ pa k < 9) : Spec mX5_climb [.ref 16, .int (nI w)] M (Ret (psum (clF M pa w) m) M) := by
  refine Spec.of (by decide) (by simp [Value.category]) (Nat.le_of_ble_eq_true rfl) ?_
  refine blk 5 [(.iconst 0, 0, 0, (nI 0)), (.istore_n 2, 0, 0, 0), (.iconst 0, 0, 0, (nI 0)), (.istore_n 3, 0, 0, 0)] [] (by decide +kernel) rfl (pc' := 4) (ls' := [some (.ref 16), some (.int (nI w)), some (.int (nI 0)), some (.int (nI 0))]) (st' := []) (M' := M) rfl ⟨trivial, trivial, trivial, trivial, trivial⟩ ?_
  refine G.sub (ls' := [some (.ref 16), some (.int (nI w)), some (.int (psum (clF M pa w) 0)), some (.int (nI 0))]) ?_ ⟨rfl, rfl, congrArg (fun z => some (Value.int z)) nI_0, rfl, trivial⟩
  exact l_climb hm hm9 hw hsz hpa _ 0 rfl (by omega)
def wgF (M : Mem) (pa : Nat → Nat) (wg : Int32) (m : Nat) : Nat → Int32 := fun i => if ¬ wg = 0 ∧ M 16 11 = 0 then nI 1 + psum (clF M pa i) m else nI 1
theorem clF_congr {M N : Mem} {pa : Nat → Nat} {w : Nat} (h1 : M 20 = N 20) (h2 : M 21 = N 21) (h3 : M 22 = N 22) : clF M pa w = clF N pa w := by unfold clF; rw [h1, h2, h3]
theorem l_weigh {M : Mem} {n m : Nat} {pa : Nat → Nat} {wg : Int32} (hn : M 16 9 = nI n) (hn5 : n ≤ 5) (hm : M 16 10 = nI (m + 1)) (hm9 : m < 9) (hsz : ∀ k, k < m → ¬ M 21 k = 0) (hpa : ∀ w, w < n → ∀ k, k < m → ¬ hb (M 20 k) w = 0 → M 23 k = nI (pa k) ∧ pa k < 9) : ∀ d i N, d = n - i → i ≤ n → (∀ a, a < i → N 24 a = wgF M pa wg m a) → (∀ z, z ≠ 24 → N z = M z) → (∀ a, i ≤ a → N 24 a = M 24 a) → G mX5_weigh 2 [some (.ref 16), some (.int wg), some (.int (nI i))] [] N (fun r N => r = none ∧ (∀ a, a < n → N 24 a = wgF M pa wg m a) ∧ (∀ z, z ≠ 24 → N z = M z) ∧ ∀ a, n ≤ a → N 24 a = M 24 a) := by
  intro d
  induction d using Nat.strongRecOn with
  | ind d ih =>
    intro i N hd hi j1 j2 j3
    have hnN : N 16 9 = nI n := by rw [j2 16 (by decide)]; exact hn
    refine blk 5 [(.iload_n 2, 0, 0, 0), (.aload_n 0, 0, 0, 0), (.getfield 45, 5, 9, 0)] [] (by decide +kernel) rfl (pc' := 7) (ls' := [some (.ref 16), some (.int wg), some (.int (nI i))]) (st' := [.int (N 16 9), .int (nI i)]) (M' := N) rfl ⟨trivial, trivial, rfl, trivial⟩ ?_
    refine g_icmp_ge (off := 37) (tgt := 44) (by decide +kernel) (by decide) (fun c1 => ?_) (fun c1 => ?_)
    · have nc1 : n ≤ i := (nI_leI (by omega) (by omega)).mp (by simpa only [hnN, nI_add, pk_mul, nI_s1, n0_lit] using c1)
      have e : i = n := by omega
      subst e
      exact g_return (by decide +kernel) rfl ⟨rfl, j1, j2, j3⟩
    · have nc1 : i < n := by
        have z : ¬ nI n ≤ nI i := by simpa only [hnN, nI_add, pk_mul, nI_s1, n0_lit] using c1
        rw [nI_leI (by omega) (by omega)] at z
        omega
      refine blk 5 [(.aload_n 0, 0, 0, 0), (.getfield 33, 5, 7, 0), (.iload_n 2, 0, 0, 0), (.iload_n 1, 0, 0, 0)] [] (by decide +kernel) rfl (pc' := 16) (ls' := [some (.ref 16), some (.int wg), some (.int (nI i))]) (st' := [.int wg, .int (nI i), .ref 24]) (M' := N) rfl ⟨trivial, rfl, trivial, trivial, trivial⟩ ?_
      refine g_if_eq (off := 20) (tgt := 36) (by decide +kernel) (by decide) (fun c2 => ?_) (fun c2 => ?_)
      · refine blk 5 [(.iconst 1, 0, 0, (nI 1)), (.iastore, 0, 0, 0), (.iinc 2 1, 0, 0, (nI 1)), (.goto (-39), 2, 0, 0)] [i] (by decide +kernel) rfl (pc' := 2) (ls' := [some (.ref 16), some (.int wg), some (.int (nI i + nI 1))]) (st' := []) (M' := stm N 24 i (nI 1)) rfl ⟨trivial, ⟨rfl, (by show _ < 5; omega), by decide⟩, trivial, trivial, trivial⟩ ?_
        refine G.sub (ls' := [some (.ref 16), some (.int wg), some (.int (nI (i + 1)))]) ?_ ⟨rfl, rfl, congrArg (fun z => some (Value.int z)) (by simp only [nI_add, nI_s1]), trivial⟩
        refine ih (d - 1) (by omega) (i + 1) _ (by omega) (by omega) (fun a ha => ?_) (fun z hz => by rw [stm_ne hz]; exact j2 z hz) (fun a ha => by rw [stm_off (by omega)]; exact j3 a (by omega))
        by_cases e : a = i
        · subst e; rw [stm_self, wgF, if_neg (fun z => by have z2 := z.2; rw [← j2 16 (by decide)] at z2; first | exact z.1 (by assumption) | exact absurd z2 (by assumption))]
        · rw [stm_off e]; exact j1 a (by omega)
      · refine blk 5 [(.aload_n 0, 0, 0, 0), (.getfield 41, 5, 11, 0)] [] (by decide +kernel) rfl (pc' := 23) (ls' := [some (.ref 16), some (.int wg), some (.int (nI i))]) (st' := [.int (N 16 11), .int (nI i), .ref 24]) (M' := N) rfl ⟨trivial, rfl, trivial⟩ ?_
        refine g_if_ne (off := 13) (tgt := 36) (by decide +kernel) (by decide) (fun c3 => ?_) (fun c3 => ?_)
        · refine blk 5 [(.iconst 1, 0, 0, (nI 1)), (.iastore, 0, 0, 0), (.iinc 2 1, 0, 0, (nI 1)), (.goto (-39), 2, 0, 0)] [i] (by decide +kernel) rfl (pc' := 2) (ls' := [some (.ref 16), some (.int wg), some (.int (nI i + nI 1))]) (st' := []) (M' := stm N 24 i (nI 1)) rfl ⟨trivial, ⟨rfl, (by show _ < 5; omega), by decide⟩, trivial, trivial, trivial⟩ ?_
          refine G.sub (ls' := [some (.ref 16), some (.int wg), some (.int (nI (i + 1)))]) ?_ ⟨rfl, rfl, congrArg (fun z => some (Value.int z)) (by simp only [nI_add, nI_s1]), trivial⟩
          refine ih (d - 1) (by omega) (i + 1) _ (by omega) (by omega) (fun a ha => ?_) (fun z hz => by rw [stm_ne hz]; exact j2 z hz) (fun a ha => by rw [stm_off (by omega)]; exact j3 a (by omega))
          by_cases e : a = i
          · subst e; rw [stm_self, wgF, if_neg (fun z => by have z2 := z.2; rw [← j2 16 (by decide)] at z2; first | exact z.1 (by assumption) | exact absurd z2 (by assumption))]
          · rw [stm_off e]; exact j1 a (by omega)
        · refine blk 5 [(.iconst 1, 0, 0, (nI 1)), (.aload_n 0, 0, 0, 0), (.iload_n 2, 0, 0, 0)] [] (by decide +kernel) rfl (pc' := 29) (ls' := [some (.ref 16), some (.int wg), some (.int (nI i))]) (st' := [.int (nI i), .ref 16, .int (nI 1), .int (nI i), .ref 24]) (M' := N) rfl ⟨trivial, trivial, trivial, trivial⟩ ?_
          refine g_callV (s_climb N (m := m) (w := i) (pa := pa) (by rw [j2 16 (by decide)]; exact hm) hm9 (by omega) (fun k hk => by rw [j2 21 (by decide)]; exact hsz k hk) (fun k hk h => by rw [j2 20 (by decide)] at h; rw [j2 23 (by decide)]; exact hpa i (by omega) k hk h)) ok_X5_weigh_X5_climb (by decide +kernel) rfl (c := 5) rfl (by decide) rfl (Nat.le_of_ble_eq_true rfl) (fun r M' h => ?_) rfl
          obtain ⟨hr, hM⟩ := h
          rw [hr, hM]
          show G _ 32 [some (.ref 16), some (.int wg), some (.int (nI i))] [.int (psum (clF N pa i) m), .int (nI 1), .int (nI i), .ref 24] N _
          refine blk 5 [(.iadd, 0, 0, 0), (.goto (4), 37, 0, 0), (.iastore, 0, 0, 0), (.iinc 2 1, 0, 0, (nI 1)), (.goto (-39), 2, 0, 0)] [i] (by decide +kernel) rfl (pc' := 2) (ls' := [some (.ref 16), some (.int wg), some (.int (nI i + nI 1))]) (st' := []) (M' := stm N 24 i ((nI 1) + (psum (clF N pa i) m))) rfl ⟨trivial, trivial, ⟨rfl, (by show _ < 5; omega), by decide⟩, trivial, trivial, trivial⟩ ?_
          refine G.sub (ls' := [some (.ref 16), some (.int wg), some (.int (nI (i + 1)))]) ?_ ⟨rfl, rfl, congrArg (fun z => some (Value.int z)) (by simp only [nI_add, nI_s1]), trivial⟩
          refine ih (d - 1) (by omega) (i + 1) _ (by omega) (by omega) (fun a ha => ?_) (fun z hz => by rw [stm_ne hz]; exact j2 z hz) (fun a ha => by rw [stm_off (by omega)]; exact j3 a (by omega))
          by_cases e : a = i
          · subst e; rw [stm_self, wgF, if_pos ⟨by assumption, by rw [← j2 16 (by decide)]; assumption⟩, clF_congr (M := N) (N := M) (j2 20 (by decide)) (j2 21 (by decide)) (j2 22 (by decide))]
          · rw [stm_off e]; exact j1 a (by omega)
theorem s_weigh (M : Mem) {n m : Nat} {pa : Nat → Nat} {wg : Int32} (hn : M 16 9 = nI n) (hn5 : n ≤ 5) (hm : M 16 10 = nI (m + 1)) (hm9 : m < 9) (hsz : ∀ k, k < m → ¬ M 21 k = 0) (hpa : ∀ w, w < n → ∀ k, k < m → ¬ hb (M 20 k) w = 0 → M 23 k = nI (pa k) ∧ pa k < 9) : Spec mX5_weigh [.ref 16, .int wg] M (fun r N => r = none ∧ (∀ a, a < n → N 24 a = wgF M pa wg m a) ∧ (∀ z, z ≠ 24 → N z = M z) ∧ ∀ a, n ≤ a → N 24 a = M 24 a) := by
  refine Spec.of (by decide) (by simp [Value.category]) (Nat.le_of_ble_eq_true rfl) ?_
  refine blk 5 [(.iconst 0, 0, 0, (nI 0)), (.istore_n 2, 0, 0, 0)] [] (by decide +kernel) rfl (pc' := 2) (ls' := [some (.ref 16), some (.int wg), some (.int (nI 0))]) (st' := []) (M' := M) rfl ⟨trivial, trivial, trivial⟩ ?_
  exact l_weigh hn hn5 hm hm9 hsz hpa _ 0 M rfl (by omega) (fun a h => absurd h (by omega)) (fun _ _ => rfl) (fun _ _ => rfl)
