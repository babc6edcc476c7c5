/-- what copy does: this row t has the width and the cells of row u -/
def copyP (M : Mem) (t u w : Nat) : Option Value → Mem → Prop := fun r N => r = none ∧ N t 1 = nI w ∧ (∀ k, k < w → N (t + 5) k = M (u + 5) k) ∧ ∀ z, z ≠ t → z ≠ t + 5 → N z = M z
theorem s_copy (M : Mem) {t u w : Nat} (hk : kd t = 2) (hk2 : kd u = 2) (hw : M u 1 = nI w) (hl : w ≤ al (t + 5)) (hl2 : w ≤ al (u + 5)) (h0 : t + 5 < 96) (h1 : u + 5 < 96) (k0 : kd (t + 5) = 8) (k1 : kd (u + 5) = 8) (hne : u ≠ t + 5) : Spec mX2_copy [.ref t, .ref u] M (copyP M t u w) := by
  have hb := @al_big (t + 5)
  refine Spec.of (by decide) (by simp [Value.category]) (Nat.le_of_ble_eq_true rfl) ?_
  refine blk 2 [(.aload_n 1, 0, 0, 0), (.getfield 9, 2, 0, 0), (.iconst 0, 0, 0, (nI 0)), (.aload_n 0, 0, 0, 0), (.getfield 9, 2, 0, 0), (.iconst 0, 0, 0, (nI 0)), (.aload_n 1, 0, 0, 0), (.getfield 15, 2, 1, 0)] [] (by decide +kernel) rfl (pc' := 14) (ls' := [some (.ref t), some (.ref u)]) (st' := [.int (M u 1), .int (nI 0), .ref (t + 5), .int (nI 0), .ref (u + 5)]) (M' := M) rfl ⟨trivial, (by assumption), trivial, trivial, (by assumption), trivial, trivial, (by assumption), trivial⟩ ?_
  refine g_arraycopy (index := 19) (TB_in (by decide +kernel) (by decide +kernel)) (TB_in (by decide +kernel) (by decide +kernel)) (TB_in (by decide +kernel) (by decide +kernel)) (TB_in (by decide +kernel) (by decide +kernel)) (by decide +kernel) (by decide +kernel) (by decide +kernel) h1 h0 k1 k0 (by decide +kernel) (by decide +kernel) (by rw [hw]; exact nI_pos (by omega)) (by rw [hw, nI_0, sb_cl0, nI_clamp (n := w) (by omega)]; omega) (by rw [hw, nI_0, sb_cl0, nI_clamp (n := w) (by omega)]; omega) ?_
  rw [hw, nI_clamp (n := w) (by omega), nI_0, sb_cl0]
  show G _ 17 [some (.ref t), some (.ref u)] [] (stA M (t + 5) (va_cpy (M (u + 5)) (M (t + 5)) 0 0 w)) _
  generalize hN : stA M (t + 5) (va_cpy (M (u + 5)) (M (t + 5)) 0 0 w) = N
  have hNu : N u 1 = nI w := by rw [← hN, stA_ne (by omega)]; exact hw
  refine blk 2 [(.aload_n 0, 0, 0, 0), (.aload_n 1, 0, 0, 0), (.getfield 15, 2, 1, 0), (.putfield 15, 2, 1, 0)] [] (by decide +kernel) rfl (pc' := 25) (ls' := [some (.ref t), some (.ref u)]) (st' := []) (M' := stm N t 1 (N u 1)) rfl ⟨trivial, trivial, (by assumption), (by assumption), trivial⟩ ?_
  refine g_return (by decide +kernel) rfl ⟨rfl, ?_, fun k hk => ?_, fun z h1 h2 => ?_⟩
  · rw [stm_self]; exact hNu
  · rw [stm_ne (by omega), ← hN, stA_eq, pk_cpy_in (by omega) (by omega)]
    congr 1; omega
  · rw [stm_ne h1, ← hN, stA_ne h2]
def minF (M : Mem) (t u w v i : Nat) : Nat → Int32 := fun j => if psum (tupF M u (nI i) (nI j)) (v - 1) < psum (tupF M t (nI i) (nI j)) (w - 1) then psum (tupF M u (nI i) (nI j)) (v - 1) else psum (tupF M t (nI i) (nI j)) (w - 1)
theorem l_tuples2 {M : Mem} {t u w v i : Nat} {A : Int32} {Post : Option Value → Mem → Prop} (hk : kd t = 2) (hk2 : kd u = 2) (hw : M t 1 = nI w) (hv : M u 1 = nI v) (hl : w ≤ al (t + 5)) (hl2 : v ≤ al (u + 5)) (hp : G mX2_tuplesSharedWith 4 [some (.ref t), some (.ref u), some (.int (A + psum (minF M t u w v i) 4)), some (.int (nI (i + 1))), none] [] M Post) : ∀ d j, d = 4 - j → j ≤ 4 → G mX2_tuplesSharedWith 12 [some (.ref t), some (.ref u), some (.int (A + psum (minF M t u w v i) j)), some (.int (nI i)), some (.int (nI j))] [] M Post := by
  intro d
  induction d using Nat.strongRecOn with
  | ind d ih =>
    intro j hd hj
    refine blk 2 [(.iload 4, 0, 0, 0), (.iconst 4, 0, 0, (nI 4))] [] (by decide +kernel) rfl (pc' := 15) (ls' := [some (.ref t), some (.ref u), some (.int (A + psum (minF M t u w v i) j)), some (.int (nI i)), some (.int (nI j))]) (st' := [.int (nI 4), .int (nI j)]) (M' := M) rfl ⟨trivial, trivial, trivial⟩ ?_
    refine g_icmp_ge (off := 29) (tgt := 44) (by decide +kernel) (by decide) (fun c1 => ?_) (fun c1 => ?_)
    · have nc1 : 4 ≤ j := (nI_leI (by omega) (by omega)).mp (by simpa only [nI_add, pk_mul, nI_s1, n0_lit] using c1)
      refine blk 2 [(.iinc 3 1, 0, 0, (nI 1)), (.goto (-43), 4, 0, 0)] [] (by decide +kernel) rfl (pc' := 4) (ls' := [some (.ref t), some (.ref u), some (.int (A + psum (minF M t u w v i) j)), some (.int (nI i + nI 1)), some (.int (nI j))]) (st' := []) (M' := M) rfl ⟨trivial, trivial, trivial⟩ ?_
      have e : j = 4 := by omega
      subst e
      refine G.sub (ls' := [some (.ref t), some (.ref u), some (.int (A + psum (minF M t u w v i) 4)), some (.int (nI (i + 1))), none]) ?_ ⟨rfl, rfl, congrArg (fun z => some (Value.int z)) rfl, congrArg (fun z => some (Value.int z)) (by simp only [nI_add, nI_s1]), trivial⟩
      exact hp
    · have nc1 : j < 4 := by
        have z : ¬ nI 4 ≤ nI j := by simpa only [nI_add, pk_mul, nI_s1, n0_lit] using c1
        rw [nI_leI (by omega) (by omega)] at z
        omega
      refine blk 2 [(.iload_n 2, 0, 0, 0), (.aload_n 0, 0, 0, 0), (.iload_n 3, 0, 0, 0), (.iload 4, 0, 0, 0)] [] (by decide +kernel) rfl (pc' := 23) (ls' := [some (.ref t), some (.ref u), some (.int (A + psum (minF M t u w v i) j)), some (.int (nI i)), some (.int (nI j))]) (st' := [.int (nI j), .int (nI i), .ref t, .int (A + psum (minF M t u w v i) j)]) (M' := M) rfl ⟨trivial, trivial, trivial, trivial, trivial⟩ ?_
      refine g_callV (s_times M (nI i) (nI j) hk hw hl) ok_X2_tuplesSharedWith_X2_timesOfTuple (by decide +kernel) rfl (c := 2) (by assumption) (by decide) rfl (Nat.le_of_ble_eq_true rfl) (fun r M' h => ?_) rfl
      obtain ⟨hr, hM⟩ := h
      rw [hr, hM]
      show G _ 26 [some (.ref t), some (.ref u), some (.int (A + psum (minF M t u w v i) j)), some (.int (nI i)), some (.int (nI j))] [.int (psum (tupF M t (nI i) (nI j)) (w - 1)), .int (A + psum (minF M t u w v i) j)] M _
      refine blk 2 [(.aload_n 1, 0, 0, 0), (.iload_n 3, 0, 0, 0), (.iload 4, 0, 0, 0)] [] (by decide +kernel) rfl (pc' := 30) (ls' := [some (.ref t), some (.ref u), some (.int (A + psum (minF M t u w v i) j)), some (.int (nI i)), some (.int (nI j))]) (st' := [.int (nI j), .int (nI i), .ref u, .int (psum (tupF M t (nI i) (nI j)) (w - 1)), .int (A + psum (minF M t u w v i) j)]) (M' := M) rfl ⟨trivial, trivial, trivial, trivial⟩ ?_
      refine g_callV (s_times M (nI i) (nI j) hk2 hv hl2) ok_X2_tuplesSharedWith_X2_timesOfTuple (by decide +kernel) rfl (c := 2) (by assumption) (by decide) rfl (Nat.le_of_ble_eq_true rfl) (fun r M' h => ?_) rfl
      obtain ⟨hr, hM⟩ := h
      rw [hr, hM]
      show G _ 33 [some (.ref t), some (.ref u), some (.int (A + psum (minF M t u w v i) j)), some (.int (nI i)), some (.int (nI j))] [.int (psum (tupF M u (nI i) (nI j)) (v - 1)), .int (psum (tupF M t (nI i) (nI j)) (w - 1)), .int (A + psum (minF M t u w v i) j)] M _
      refine g_mmin (index := 29) (TB_in (by decide +kernel) (by decide +kernel)) (TB_in (by decide +kernel) (by decide +kernel)) (TB_in (by decide +kernel) (by decide +kernel)) (TB_in (by decide +kernel) (by decide +kernel)) (by decide) (Nat.le_of_ble_eq_true rfl) (by decide +kernel) ?_
      refine blk 2 [(.iadd, 0, 0, 0), (.istore_n 2, 0, 0, 0), (.iinc 4 1, 0, 0, (nI 1)), (.goto (-29), 12, 0, 0)] [] (by decide +kernel) rfl (pc' := 12) (ls' := [some (.ref t), some (.ref u), some (.int ((A + psum (minF M t u w v i) j) + (if (psum (tupF M u (nI i) (nI j)) (v - 1)) < (psum (tupF M t (nI i) (nI j)) (w - 1)) then psum (tupF M u (nI i) (nI j)) (v - 1) else psum (tupF M t (nI i) (nI j)) (w - 1)))), some (.int (nI i)), some (.int (nI j + nI 1))]) (st' := []) (M' := M) rfl ⟨trivial, trivial, trivial, trivial, trivial⟩ ?_
      refine G.sub (ls' := [some (.ref t), some (.ref u), some (.int (A + psum (minF M t u w v i) (j + 1))), some (.int (nI i)), some (.int (nI (j + 1)))]) ?_ ⟨rfl, rfl, congrArg (fun z => some (Value.int z)) (by rw [psum, ← Int32.add_assoc]; rfl), rfl, congrArg (fun z => some (Value.int z)) (by simp only [nI_add, nI_s1]), trivial⟩
      exact ih (d - 1) (by omega) (j + 1) (by omega) (by omega)
theorem l_tuples {M : Mem} {t u w v : Nat} {Post : Option Value → Mem → Prop} (hk : kd t = 2) (hk2 : kd u = 2) (hw : M t 1 = nI w) (hv : M u 1 = nI v) (hl : w ≤ al (t + 5)) (hl2 : v ≤ al (u + 5)) (hp : Post (some (.int (psum (fun i => psum (minF M t u w v i) 4) 4))) M) : ∀ d i, d = 4 - i → i ≤ 4 → G mX2_tuplesSharedWith 4 [some (.ref t), some (.ref u), some (.int (psum (fun i => psum (minF M t u w v i) 4) i)), some (.int (nI i)), none] [] M Post := by
  intro d
  induction d using Nat.strongRecOn with
  | ind d ih =>
    intro i hd hj
    refine blk 2 [(.iload_n 3, 0, 0, 0), (.iconst 4, 0, 0, (nI 4))] [] (by decide +kernel) rfl (pc' := 6) (ls' := [some (.ref t), some (.ref u), some (.int (psum (fun i => psum (minF M t u w v i) 4) i)), some (.int (nI i)), none]) (st' := [.int (nI 4), .int (nI i)]) (M' := M) rfl ⟨trivial, trivial, trivial⟩ ?_
    refine g_icmp_ge (off := 44) (tgt := 50) (by decide +kernel) (by decide) (fun c1 => ?_) (fun c1 => ?_)
    · have nc1 : 4 ≤ i := (nI_leI (by omega) (by omega)).mp (by simpa only [nI_add, pk_mul, nI_s1, n0_lit] using c1)
      refine blk 2 [(.iload_n 2, 0, 0, 0)] [] (by decide +kernel) rfl (pc' := 51) (ls' := [some (.ref t), some (.ref u), some (.int (psum (fun i => psum (minF M t u w v i) 4) i)), some (.int (nI i)), none]) (st' := [.int (psum (fun i => psum (minF M t u w v i) 4) i)]) (M' := M) rfl ⟨trivial, trivial⟩ ?_
      have e : i = 4 := by omega
      subst e
      exact g_ireturn (by decide +kernel) rfl rfl hp
    · have nc1 : i < 4 := by
        have z : ¬ nI 4 ≤ nI i := by simpa only [nI_add, pk_mul, nI_s1, n0_lit] using c1
        rw [nI_leI (by omega) (by omega)] at z
        omega
      refine blk 2 [(.iconst 0, 0, 0, (nI 0)), (.istore 4, 0, 0, 0)] [] (by decide +kernel) rfl (pc' := 12) (ls' := [some (.ref t), some (.ref u), some (.int (psum (fun i => psum (minF M t u w v i) 4) i)), some (.int (nI i)), some (.int (nI 0))]) (st' := []) (M' := M) rfl ⟨trivial, trivial, trivial⟩ ?_
      refine G.sub (ls' := [some (.ref t), some (.ref u), some (.int (psum (fun i => psum (minF M t u w v i) 4) i + psum (minF M t u w v i) 0)), some (.int (nI i)), some (.int (nI 0))]) ?_ ⟨rfl, rfl, congrArg (fun z => some (Value.int z)) (Int32.add_zero _).symm, rfl, rfl, trivial⟩
      exact l_tuples2 hk hk2 hw hv hl hl2 (ih (d - 1) (by omega) (i + 1) (by omega) (by omega)) _ 0 rfl (by omega)
theorem s_tuples (M : Mem) {t u w v : Nat} (hk : kd t = 2) (hk2 : kd u = 2) (hw : M t 1 = nI w) (hv : M u 1 = nI v) (hl : w ≤ al (t + 5)) (hl2 : v ≤ al (u + 5)) : Spec mX2_tuplesSharedWith [.ref t, .ref u] M (Ret (psum (fun i => psum (minF M t u w v i) 4) 4) M) := by
  refine Spec.of (by decide) (by simp [Value.category]) (Nat.le_of_ble_eq_true rfl) ?_
  refine blk 2 [(.iconst 0, 0, 0, (nI 0)), (.istore_n 2, 0, 0, 0), (.iconst 0, 0, 0, (nI 0)), (.istore_n 3, 0, 0, 0)] [] (by decide +kernel) rfl (pc' := 4) (ls' := [some (.ref t), some (.ref u), some (.int (nI 0)), some (.int (nI 0)), none]) (st' := []) (M' := M) rfl ⟨trivial, trivial, trivial, trivial, trivial⟩ ?_
  exact l_tuples hk hk2 hw hv hl hl2 ⟨rfl, rfl⟩ _ 0 rfl (by omega)
