/-! the class's tree: join, grow -/
theorem numM_congr {M N : Mem} {k a b : Nat} (h16 : M 16 = N 16) (h23 : M 23 = N 23) (hb : ∀ x, M (26 + x) = N (26 + x)) : numM M k a b = numM N k a b := by
  unfold numM
  have e1 : opF M = opF N := by unfold opF; rw [h23]
  have e2 : spF M a b = spF N a b := by unfold spF; rw [h23, hb a, hb b]
  rw [h16, e1, e2, hb a]
def jlP (A : Mem) (k l q : Nat) : Option Value → Mem → Prop := fun r N => r = none ∧ N 16 10 = nI (k + 1) ∧ (∀ f, f ≠ 10 → N 16 f = A 16 f) ∧ (∀ z, z ≠ 16 → (z < 26 ∨ 34 < z) → N z = A z) ∧ (∀ x, x < k → A 23 x < 0 → N (26 + k) x = bjM A l q x ∧ N (26 + x) k = bjM A l q x) ∧ ∀ a b, a < 9 → a ≠ k → b ≠ k → N (26 + a) b = A (26 + a) b
def joinP (M : Mem) (k l q : Nat) : Option Value → Mem → Prop := fun r N => r = none ∧ (N 17 k = nI l ∧ N 18 k = nI q ∧ N 20 k = M 20 l ||| M 20 q ∧ N 21 k = M 21 l + M 21 q ∧ N 22 k = numM M k l q / (nI 100 * denM M l q)) ∧ (∀ a, a ≠ k → N 17 a = M 17 a ∧ N 18 a = M 18 a ∧ N 20 a = M 20 a ∧ N 21 a = M 21 a ∧ N 22 a = M 22 a) ∧ (∀ a, N 23 a = if a = l ∨ a = q then nI k else if a = k then -1 else M 23 a) ∧ N 16 10 = nI (k + 1) ∧ (∀ f, f ≠ 10 → N 16 f = M 16 f) ∧ (∀ x, x < k → x ≠ l → x ≠ q → M 23 x < 0 → N (26 + k) x = bjM M l q x ∧ N (26 + x) k = bjM M l q x) ∧ (∀ a b, a < 9 → a ≠ k → b ≠ k → N (26 + a) b = M (26 + a) b) ∧ ∀ z, z < 16 ∨ 34 < z ∨ z = 19 ∨ z = 24 ∨ z = 25 → N z = M z
theorem stB_off {M : Mem} {k i a b : Nat} {v : Int32} (hik : i < k) (hb : b ≠ k) (ha : a ≠ k) : stm (stm M (26 + k) i v) (26 + i) k v (26 + a) b = M (26 + a) b := by
  by_cases e : a = i
  · subst e; rw [stm_off hb, stm_ne (by omega)]
  · rw [stm_ne (by omega), stm_ne (by omega)]
theorem l_join {A : Mem} {k l q : Nat} {Post : Option Value → Mem → Prop} (hp : ∀ r N, jlP A k l q r N → Post r N) (hk : A 16 10 = nI k) (hk9 : k < 9) (hl : l < k) (hq : q < k) : ∀ d i N, d = k - i → i ≤ k → (∀ z, z < 26 ∨ 34 < z → N z = A z) → (∀ x, x < i → A 23 x < 0 → N (26 + k) x = bjM A l q x ∧ N (26 + x) k = bjM A l q x) → (∀ a b, a < 9 → a ≠ k → b ≠ k → N (26 + a) b = A (26 + a) b) → G mX5_join 103 [some (.ref 16), some (.int (nI l)), some (.int (nI q)), some (.int (nI k)), some (.int (nI i))] [] N Post := by
  intro d
  induction d using Nat.strongRecOn with
  | ind d ih =>
    intro i N hd hi j0 j1 j2
    have hN10 : N 16 10 = nI k := by rw [j0 16 (by omega)]; exact hk
    refine blk 5 [(.iload 4, 0, 0, 0), (.iload_n 3, 0, 0, 0)] [] (by decide +kernel) rfl (pc' := 106) (ls' := [some (.ref 16), some (.int (nI l)), some (.int (nI q)), some (.int (nI k)), some (.int (nI i))]) (st' := [.int (nI k), .int (nI i)]) (M' := N) rfl ⟨trivial, trivial, trivial⟩ ?_
    refine g_icmp_ge (off := 33) (tgt := 139) (by decide +kernel) (by decide) (fun c1 => ?_) (fun c1 => ?_)
    · have nc1 : k ≤ i := (nI_leI (by omega) (by omega)).mp (by simpa only [nI_add, pk_mul, nI_s1, n0_lit] using c1)
      refine blk 5 [(.aload_n 0, 0, 0, 0), (.dup, 0, 0, 0), (.getfield 49, 5, 10, 0), (.iconst 1, 0, 0, (nI 1)), (.iadd, 0, 0, 0), (.putfield 49, 5, 10, 0)] [] (by decide +kernel) rfl (pc' := 149) (ls' := [some (.ref 16), some (.int (nI l)), some (.int (nI q)), some (.int (nI k)), some (.int (nI i))]) (st' := []) (M' := stm N 16 10 ((N 16 10) + (nI 1))) rfl ⟨trivial, rfl, rfl, trivial, trivial, rfl, trivial⟩ ?_
      have e : i = k := by omega
      subst e
      refine g_return (by decide +kernel) rfl (hp _ _ ⟨rfl, ?_, fun f hf => ?_, fun z h1 h2 => ?_, fun x hx ho => ?_, fun a b ha hak hbk => ?_⟩)
      · rw [stm_self, hN10, nI_add]
      · rw [stm_off hf, j0 16 (by omega)]
      · rw [stm_ne h1]; exact j0 z h2
      · rw [stm_ne (by omega), stm_ne (by omega)]; exact j1 x hx ho
      · rw [stm_ne (by omega)]; exact j2 a b ha hak hbk
    · have nc1 : i < k := by
        have z : ¬ nI k ≤ nI i := by simpa only [nI_add, pk_mul, nI_s1, n0_lit] using c1
        rw [nI_leI (by omega) (by omega)] at z
        omega
      refine blk 5 [(.aload_n 0, 0, 0, 0), (.iload 4, 0, 0, 0)] [] (by decide +kernel) rfl (pc' := 112) (ls' := [some (.ref 16), some (.int (nI l)), some (.int (nI q)), some (.int (nI k)), some (.int (nI i))]) (st' := [.int (nI i), .ref 16]) (M' := N) rfl ⟨trivial, trivial, trivial⟩ ?_
      refine g_callV (s_isOpen _ (a := i) (by omega)) ok_X5_join_X5_isOpen (by decide +kernel) rfl (c := 5) rfl (by decide) rfl (Nat.le_of_ble_eq_true rfl) (fun r M' h => ?_) rfl
      obtain ⟨hr, hM⟩ := h
      rw [hr, hM]
      show G _ 115 [some (.ref 16), some (.int (nI l)), some (.int (nI q)), some (.int (nI k)), some (.int (nI i))] [.int (bI (decide (N 23 i < 0)))] N _
      refine g_if_eq (off := 18) (tgt := 133) (by decide +kernel) (by decide) (fun c2 => ?_) (fun c2 => ?_)
      · refine blk 5 [(.iinc 4 1, 0, 0, (nI 1)), (.goto (-33), 103, 0, 0)] [] (by decide +kernel) rfl (pc' := 103) (ls' := [some (.ref 16), some (.int (nI l)), some (.int (nI q)), some (.int (nI k)), some (.int (nI i + nI 1))]) (st' := []) (M' := N) rfl ⟨trivial, trivial, trivial⟩ ?_
        refine G.sub (ls' := [some (.ref 16), some (.int (nI l)), some (.int (nI q)), some (.int (nI k)), some (.int (nI (i + 1)))]) ?_ ⟨rfl, rfl, rfl, rfl, congrArg (fun z => some (Value.int z)) (by simp only [nI_add, nI_s1]), trivial⟩
        refine ih (d - 1) (by omega) (i + 1) N (by omega) (by omega) j0 (fun x hx ho => ?_) j2
        rcases Nat.lt_or_ge x i with z | z
        · exact j1 x z ho
        · rw [show x = i by omega] at ho; rw [← j0 23 (by omega)] at ho; exact absurd ho (of_decide_eq_false (bI_eq (by assumption)))
      · refine blk 5 [(.aload_n 0, 0, 0, 0), (.iload_n 3, 0, 0, 0), (.iload 4, 0, 0, 0), (.aload_n 0, 0, 0, 0), (.iload_n 1, 0, 0, 0), (.iload_n 2, 0, 0, 0), (.iload 4, 0, 0, 0)] [] (by decide +kernel) rfl (pc' := 127) (ls' := [some (.ref 16), some (.int (nI l)), some (.int (nI q)), some (.int (nI k)), some (.int (nI i))]) (st' := [.int (nI i), .int (nI q), .int (nI l), .ref 16, .int (nI i), .int (nI k), .ref 16]) (M' := N) rfl ⟨trivial, trivial, trivial, trivial, trivial, trivial, trivial, trivial⟩ ?_
        refine g_callV (s_bj N (l := l) (r := q) (x := i) (by omega) (by omega) (by omega)) ok_X5_join_X5_betweenJoined (by decide +kernel) rfl (c := 5) rfl (by decide) rfl (Nat.le_of_ble_eq_true rfl) (fun r M' h => ?_) rfl
        obtain ⟨hr, hM⟩ := h
        rw [hr, hM]
        show G _ 130 [some (.ref 16), some (.int (nI l)), some (.int (nI q)), some (.int (nI k)), some (.int (nI i))] [.int (bjM N l q i), .int (nI i), .int (nI k), .ref 16] N _
        refine g_callV (s_setB _ (a := k) (b := i) (bjM N l q i) (by omega) (by omega)) ok_X5_join_X5_setBetween (by decide +kernel) rfl (c := 5) rfl (by decide) rfl (Nat.le_of_ble_eq_true rfl) (fun r N' h => ?_) rfl
        obtain ⟨hr, hN⟩ := h
        rw [hr, hN]
        show G _ 133 [some (.ref 16), some (.int (nI l)), some (.int (nI q)), some (.int (nI k)), some (.int (nI i))] [] (stB N k i (bjM N l q i)) _
        refine blk 5 [(.iinc 4 1, 0, 0, (nI 1)), (.goto (-33), 103, 0, 0)] [] (by decide +kernel) rfl (pc' := 103) (ls' := [some (.ref 16), some (.int (nI l)), some (.int (nI q)), some (.int (nI k)), some (.int (nI i + nI 1))]) (st' := []) (M' := (stB N k i (bjM N l q i))) rfl ⟨trivial, trivial, trivial⟩ ?_
        have e1 : N 16 = A 16 := j0 16 (by omega)
        have eb : bjM N l q i = bjM A l q i := by unfold bjM; rw [e1, j2 l i (by omega) (by omega) (by omega), j2 q i (by omega) (by omega) (by omega), j2 l q (by omega) (by omega) (by omega)]
        refine G.sub (ls' := [some (.ref 16), some (.int (nI l)), some (.int (nI q)), some (.int (nI k)), some (.int (nI (i + 1)))]) ?_ ⟨rfl, rfl, rfl, rfl, congrArg (fun z => some (Value.int z)) (by simp only [nI_add, nI_s1]), trivial⟩
        refine ih (d - 1) (by omega) (i + 1) _ (by omega) (by omega) (fun z hz => by unfold stB; rw [stm_ne (by omega), stm_ne (by omega)]; exact j0 z hz) (fun x hx ho => ?_) (fun a b ha hak hbk => ?_)
        · by_cases e : x = i
          · subst e; unfold stB; rw [stm_self, stm_ne (by omega), stm_self, eb]; exact ⟨rfl, rfl⟩
          · have := j1 x (by omega) ho; unfold stB; rw [stm_ne (t' := 26 + k) (by omega), stm_off e, stm_ne (t' := 26 + x) (by omega), stm_ne (t' := 26 + x) (by omega)]; exact this
        · unfold stB
          rw [stB_off (by omega) hbk hak]; exact j2 a b ha hak hbk
theorem s_join (M : Mem) {k l q : Nat} (hk : M 16 10 = nI k) (hk9 : k < 9) (hl : l < k) (hq : q < k) (hdz : ¬ nI 100 * denM M l q = 0) : Spec mX5_join [.ref 16, .int (nI l), .int (nI q)] M (joinP M k l q) := by
  refine Spec.of (by decide) (by simp [Value.category]) (Nat.le_of_ble_eq_true rfl) ?_
  refine blk 5 [(.aload_n 0, 0, 0, 0), (.getfield 49, 5, 10, 0), (.istore_n 3, 0, 0, 0), (.aload_n 0, 0, 0, 0), (.getfield 9, 5, 0, 0), (.iload_n 3, 0, 0, 0), (.iload_n 1, 0, 0, 0), (.iastore, 0, 0, 0), (.aload_n 0, 0, 0, 0), (.getfield 15, 5, 1, 0), (.iload_n 3, 0, 0, 0), (.iload_n 2, 0, 0, 0), (.iastore, 0, 0, 0), (.aload_n 0, 0, 0, 0), (.getfield 21, 5, 3, 0), (.iload_n 3, 0, 0, 0), (.aload_n 0, 0, 0, 0), (.getfield 21, 5, 3, 0), (.iload_n 1, 0, 0, 0), (.iaload, 0, 0, 0), (.aload_n 0, 0, 0, 0), (.getfield 21, 5, 3, 0), (.iload_n 2, 0, 0, 0), (.iaload, 0, 0, 0), (.ior, 0, 0, 0), (.iastore, 0, 0, 0), (.aload_n 0, 0, 0, 0), (.getfield 24, 5, 4, 0), (.iload_n 3, 0, 0, 0), (.aload_n 0, 0, 0, 0), (.getfield 24, 5, 4, 0), (.iload_n 1, 0, 0, 0), (.iaload, 0, 0, 0), (.aload_n 0, 0, 0, 0), (.getfield 24, 5, 4, 0), (.iload_n 2, 0, 0, 0), (.iaload, 0, 0, 0), (.iadd, 0, 0, 0), (.iastore, 0, 0, 0), (.aload_n 0, 0, 0, 0), (.getfield 27, 5, 5, 0), (.iload_n 3, 0, 0, 0), (.aload_n 0, 0, 0, 0), (.iload_n 1, 0, 0, 0), (.iload_n 2, 0, 0, 0)] [k, k, l, q, k, l, q, k] (by decide +kernel) rfl (pc' := 65) (ls' := [some (.ref 16), some (.int (nI l)), some (.int (nI q)), some (.int (M 16 10)), none]) (st' := [.int (nI q), .int (nI l), .ref 16, .int (M 16 10), .ref 22]) (M' := stm (stm (stm (stm M 17 k (nI l)) 18 k (nI q)) 20 k ((M 20 l) ||| (M 20 q))) 21 k ((M 21 l) + (M 21 q))) rfl ⟨trivial, rfl, trivial, trivial, rfl, trivial, trivial, ⟨(by simp only [hk, nI_add, pk_mul, nI_s1, Nat.reduceAdd, Nat.reduceMul]), (by show _ < 9; omega), by decide⟩, trivial, rfl, trivial, trivial, ⟨(by simp only [hk, nI_add, pk_mul, nI_s1, Nat.reduceAdd, Nat.reduceMul]), (by show _ < 9; omega), by decide⟩, trivial, rfl, trivial, trivial, rfl, trivial, ⟨rfl, (by show _ < 9; omega)⟩, trivial, rfl, trivial, ⟨rfl, (by show _ < 9; omega)⟩, trivial, ⟨(by simp only [hk, nI_add, pk_mul, nI_s1, Nat.reduceAdd, Nat.reduceMul]), (by show _ < 9; omega), by decide⟩, trivial, rfl, trivial, trivial, rfl, trivial, ⟨rfl, (by show _ < 9; omega)⟩, trivial, rfl, trivial, ⟨rfl, (by show _ < 9; omega)⟩, trivial, ⟨(by simp only [hk, nI_add, pk_mul, nI_s1, Nat.reduceAdd, Nat.reduceMul]), (by show _ < 9; omega), by decide⟩, trivial, rfl, trivial, trivial, trivial, trivial, trivial⟩ ?_
  have q16 : (stm (stm (stm (stm M 17 k (nI l)) 18 k (nI q)) 20 k ((M 20 l) ||| (M 20 q))) 21 k ((M 21 l) + (M 21 q))) 16 = M 16 := by rw [stm_ne (by decide), stm_ne (by decide), stm_ne (by decide), stm_ne (by decide)]
  have q23 : (stm (stm (stm (stm M 17 k (nI l)) 18 k (nI q)) 20 k ((M 20 l) ||| (M 20 q))) 21 k ((M 21 l) + (M 21 q))) 23 = M 23 := by rw [stm_ne (by decide), stm_ne (by decide), stm_ne (by decide), stm_ne (by decide)]
  have qb : ∀ x, (stm (stm (stm (stm M 17 k (nI l)) 18 k (nI q)) 20 k ((M 20 l) ||| (M 20 q))) 21 k ((M 21 l) + (M 21 q))) (26 + x) = M (26 + x) := fun x => by rw [stm_ne (by omega), stm_ne (by omega), stm_ne (by omega), stm_ne (by omega)]
  have qd : denM (stm (stm (stm (stm M 17 k (nI l)) 18 k (nI q)) 20 k ((M 20 l) ||| (M 20 q))) 21 k ((M 21 l) + (M 21 q))) l q = denM M l q := by unfold denM; rw [q16, stm_off (t := 21) (by omega), stm_off (t := 21) (by omega), stm_ne (t' := 21) (by decide), stm_ne (t' := 21) (by decide), stm_ne (t' := 21) (by decide)]
  refine g_callV (s_num (stm (stm (stm (stm M 17 k (nI l)) 18 k (nI q)) 20 k ((M 20 l) ||| (M 20 q))) 21 k ((M 21 l) + (M 21 q))) (k := k) (a := l) (b := q) (by rw [q16]; exact hk) (by omega) (by omega) (by omega)) ok_X5_join_X5_numerator (by decide +kernel) rfl (c := 5) rfl (by decide) rfl (Nat.le_of_ble_eq_true rfl) (fun r M' h => ?_) rfl
  obtain ⟨hr, hM⟩ := h
  rw [hr, hM]
  show G _ 68 [some (.ref 16), some (.int (nI l)), some (.int (nI q)), some (.int (M 16 10)), none] [.int (numM (stm (stm (stm (stm M 17 k (nI l)) 18 k (nI q)) 20 k ((M 20 l) ||| (M 20 q))) 21 k ((M 21 l) + (M 21 q))) k l q), .int (M 16 10), .ref 22] (stm (stm (stm (stm M 17 k (nI l)) 18 k (nI q)) 20 k ((M 20 l) ||| (M 20 q))) 21 k ((M 21 l) + (M 21 q))) _
  refine blk 5 [(.bipush 100, 0, 0, (nI 100)), (.aload_n 0, 0, 0, 0), (.iload_n 1, 0, 0, 0), (.iload_n 2, 0, 0, 0)] [] (by decide +kernel) rfl (pc' := 73) (ls' := [some (.ref 16), some (.int (nI l)), some (.int (nI q)), some (.int (M 16 10)), none]) (st' := [.int (nI q), .int (nI l), .ref 16, .int (nI 100), .int (numM (stm (stm (stm (stm M 17 k (nI l)) 18 k (nI q)) 20 k ((M 20 l) ||| (M 20 q))) 21 k ((M 21 l) + (M 21 q))) k l q), .int (M 16 10), .ref 22]) (M' := stm (stm (stm (stm M 17 k (nI l)) 18 k (nI q)) 20 k ((M 20 l) ||| (M 20 q))) 21 k ((M 21 l) + (M 21 q))) rfl ⟨trivial, trivial, trivial, trivial, trivial⟩ ?_
  refine g_callV (s_den (stm (stm (stm (stm M 17 k (nI l)) 18 k (nI q)) 20 k ((M 20 l) ||| (M 20 q))) 21 k ((M 21 l) + (M 21 q))) (a := l) (b := q) (by omega) (by omega)) ok_X5_join_X5_denominator (by decide +kernel) rfl (c := 5) rfl (by decide) rfl (Nat.le_of_ble_eq_true rfl) (fun r M' h => ?_) rfl
  obtain ⟨hr, hM⟩ := h
  rw [hr, hM]
  show G _ 76 [some (.ref 16), some (.int (nI l)), some (.int (nI q)), some (.int (M 16 10)), none] [.int (denM (stm (stm (stm (stm M 17 k (nI l)) 18 k (nI q)) 20 k ((M 20 l) ||| (M 20 q))) 21 k ((M 21 l) + (M 21 q))) l q), .int (nI 100), .int (numM (stm (stm (stm (stm M 17 k (nI l)) 18 k (nI q)) 20 k ((M 20 l) ||| (M 20 q))) 21 k ((M 21 l) + (M 21 q))) k l q), .int (M 16 10), .ref 22] (stm (stm (stm (stm M 17 k (nI l)) 18 k (nI q)) 20 k ((M 20 l) ||| (M 20 q))) 21 k ((M 21 l) + (M 21 q))) _
  rw [numM_congr q16 q23 qb, qd]
  show G _ 76 [some (.ref 16), some (.int (nI l)), some (.int (nI q)), some (.int (M 16 10)), none] [.int (denM M l q), .int (nI 100), .int (numM M k l q), .int (M 16 10), .ref 22] (stm (stm (stm (stm M 17 k (nI l)) 18 k (nI q)) 20 k ((M 20 l) ||| (M 20 q))) 21 k ((M 21 l) + (M 21 q))) _
  refine blk 5 [(.imul, 0, 0, 0), (.idiv, 0, 0, 0), (.iastore, 0, 0, 0), (.aload_n 0, 0, 0, 0), (.getfield 30, 5, 6, 0), (.iload_n 3, 0, 0, 0), (.iconst (-1), 0, 0, (-1)), (.iastore, 0, 0, 0), (.aload_n 0, 0, 0, 0), (.getfield 30, 5, 6, 0), (.iload_n 1, 0, 0, 0), (.iload_n 3, 0, 0, 0), (.iastore, 0, 0, 0), (.aload_n 0, 0, 0, 0), (.getfield 30, 5, 6, 0), (.iload_n 2, 0, 0, 0), (.iload_n 3, 0, 0, 0), (.iastore, 0, 0, 0), (.iconst 0, 0, 0, (nI 0)), (.istore 4, 0, 0, 0)] [k, k, l, q] (by decide +kernel) rfl (pc' := 103) (ls' := [some (.ref 16), some (.int (nI l)), some (.int (nI q)), some (.int (M 16 10)), some (.int (nI 0))]) (st' := []) (M' := stm (stm (stm (stm (stm (stm (stm (stm M 17 k (nI l)) 18 k (nI q)) 20 k ((M 20 l) ||| (M 20 q))) 21 k ((M 21 l) + (M 21 q))) 22 k ((numM M k l q) / ((nI 100) * (denM M l q)))) 23 k (-1)) 23 l (M 16 10)) 23 q (M 16 10)) rfl ⟨trivial, hdz, ⟨(by simp only [hk, nI_add, pk_mul, nI_s1, Nat.reduceAdd, Nat.reduceMul]), (by show _ < 9; omega), by decide⟩, trivial, rfl, trivial, trivial, ⟨(by simp only [hk, nI_add, pk_mul, nI_s1, Nat.reduceAdd, Nat.reduceMul]), (by show _ < 9; omega), by decide⟩, trivial, rfl, trivial, trivial, ⟨rfl, (by show _ < 9; omega), by decide⟩, trivial, rfl, trivial, trivial, ⟨rfl, (by show _ < 9; omega), by decide⟩, trivial, trivial, trivial⟩ ?_
  have x23 : ∀ a, (stm (stm (stm (stm (stm (stm (stm (stm M 17 k (nI l)) 18 k (nI q)) 20 k ((M 20 l) ||| (M 20 q))) 21 k ((M 21 l) + (M 21 q))) 22 k ((numM M k l q) / ((nI 100) * (denM M l q)))) 23 k (-1)) 23 l (M 16 10)) 23 q (M 16 10)) 23 a = if a = l ∨ a = q then nI k else if a = k then -1 else M 23 a := fun a => by
    by_cases e1 : a = q
    · subst e1; rw [stm_self, if_pos (Or.inr rfl)]; exact hk
    · rw [stm_off e1]
      by_cases e2 : a = l
      · subst e2; rw [stm_self, if_pos (Or.inl rfl)]; exact hk
      · rw [stm_off e2, if_neg (fun z => z.elim e2 e1)]
        by_cases e3 : a = k
        · subst e3; rw [stm_self, if_pos rfl]
        · rw [stm_off e3, if_neg e3, stm_ne (by decide), stm_ne (by decide), stm_ne (by decide), stm_ne (by decide), stm_ne (by decide)]
  have y16 : (stm (stm (stm (stm (stm (stm (stm (stm M 17 k (nI l)) 18 k (nI q)) 20 k ((M 20 l) ||| (M 20 q))) 21 k ((M 21 l) + (M 21 q))) 22 k ((numM M k l q) / ((nI 100) * (denM M l q)))) 23 k (-1)) 23 l (M 16 10)) 23 q (M 16 10)) 16 = M 16 := by rw [stm_ne (by decide), stm_ne (by decide), stm_ne (by decide), stm_ne (by decide), stm_ne (by decide), stm_ne (by decide), stm_ne (by decide), stm_ne (by decide)]
  have yb : ∀ x, (stm (stm (stm (stm (stm (stm (stm (stm M 17 k (nI l)) 18 k (nI q)) 20 k ((M 20 l) ||| (M 20 q))) 21 k ((M 21 l) + (M 21 q))) 22 k ((numM M k l q) / ((nI 100) * (denM M l q)))) 23 k (-1)) 23 l (M 16 10)) 23 q (M 16 10)) (26 + x) = M (26 + x) := fun x => by rw [stm_ne (by omega), stm_ne (by omega), stm_ne (by omega), stm_ne (by omega), stm_ne (by omega), stm_ne (by omega), stm_ne (by omega), stm_ne (by omega)]
  have ybj : ∀ x, bjM (stm (stm (stm (stm (stm (stm (stm (stm M 17 k (nI l)) 18 k (nI q)) 20 k ((M 20 l) ||| (M 20 q))) 21 k ((M 21 l) + (M 21 q))) 22 k ((numM M k l q) / ((nI 100) * (denM M l q)))) 23 k (-1)) 23 l (M 16 10)) 23 q (M 16 10)) l q x = bjM M l q x := fun x => by unfold bjM; rw [y16, yb l, yb q]
  refine G.sub (ls' := [some (.ref 16), some (.int (nI l)), some (.int (nI q)), some (.int (nI k)), some (.int (nI 0))]) (l_join (A := (stm (stm (stm (stm (stm (stm (stm (stm M 17 k (nI l)) 18 k (nI q)) 20 k ((M 20 l) ||| (M 20 q))) 21 k ((M 21 l) + (M 21 q))) 22 k ((numM M k l q) / ((nI 100) * (denM M l q)))) 23 k (-1)) 23 l (M 16 10)) 23 q (M 16 10))) (fun r N hN => ?_) (by rw [y16]; exact hk) hk9 hl hq _ 0 _ rfl (by omega) (fun _ _ => rfl) (fun x h => absurd h (by omega)) (fun _ _ _ _ _ => rfl)) ⟨rfl, rfl, rfl, congrArg (fun z => some (Value.int z)) hk, rfl, trivial⟩
  obtain ⟨p1, p2, p3, p4, p5, p6⟩ := hN
  refine ⟨p1, ⟨?_, ?_, ?_, ?_, ?_⟩, fun a ha => ⟨?_, ?_, ?_, ?_, ?_⟩, fun a => ?_, p2, fun f hf => ?_, fun x hx hxl hxq ho => ?_, fun a b ha hak hbk => ?_, fun z hz => ?_⟩
  · rw [p4 17 (by decide) (by omega), stm_ne (by decide), stm_ne (by decide), stm_ne (by decide), stm_ne (by decide), stm_ne (by decide), stm_ne (by decide), stm_ne (by decide), stm_self]
  · rw [p4 18 (by decide) (by omega), stm_ne (by decide), stm_ne (by decide), stm_ne (by decide), stm_ne (by decide), stm_ne (by decide), stm_ne (by decide), stm_self]
  · rw [p4 20 (by decide) (by omega), stm_ne (by decide), stm_ne (by decide), stm_ne (by decide), stm_ne (by decide), stm_ne (by decide), stm_self]
  · rw [p4 21 (by decide) (by omega), stm_ne (by decide), stm_ne (by decide), stm_ne (by decide), stm_ne (by decide), stm_self]
  · rw [p4 22 (by decide) (by omega), stm_ne (by decide), stm_ne (by decide), stm_ne (by decide), stm_self]
  · rw [p4 17 (by decide) (by omega), stm_ne (by decide), stm_ne (by decide), stm_ne (by decide), stm_ne (by decide), stm_ne (by decide), stm_ne (by decide), stm_ne (by decide), stm_off ha]
  · rw [p4 18 (by decide) (by omega), stm_ne (by decide), stm_ne (by decide), stm_ne (by decide), stm_ne (by decide), stm_ne (by decide), stm_ne (by decide), stm_off ha, stm_ne (by decide)]
  · rw [p4 20 (by decide) (by omega), stm_ne (by decide), stm_ne (by decide), stm_ne (by decide), stm_ne (by decide), stm_ne (by decide), stm_off ha, stm_ne (by decide), stm_ne (by decide)]
  · rw [p4 21 (by decide) (by omega), stm_ne (by decide), stm_ne (by decide), stm_ne (by decide), stm_ne (by decide), stm_off ha, stm_ne (by decide), stm_ne (by decide), stm_ne (by decide)]
  · rw [p4 22 (by decide) (by omega), stm_ne (by decide), stm_ne (by decide), stm_ne (by decide), stm_off ha, stm_ne (by decide), stm_ne (by decide), stm_ne (by decide), stm_ne (by decide)]
  · rw [p4 23 (by decide) (by omega)]; exact x23 a
  · rw [p3 f hf, y16]
  · have := p5 x hx (by rw [x23 x, if_neg (by omega), if_neg (by omega)]; exact ho)
    rw [ybj] at this; exact this
  · rw [p6 a b ha hak hbk, yb a]
  · rw [p4 z (by omega) (by omega), stm_ne (by omega), stm_ne (by omega), stm_ne (by omega), stm_ne (by omega), stm_ne (by omega), stm_ne (by omega), stm_ne (by omega), stm_ne (by omega)]
