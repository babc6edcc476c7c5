/-! Merger: match, worthAfter, choose, look -/
def mtF2 (M : Mem) (i j x : Nat) : Nat → Int32 := fun y => M 6 (i * 4 + x) * M 9 (j * 4 + y) * M 3 (x * 4 + y)
/-- the score of two columns -/
def mtF (M : Mem) (i j : Nat) : Int32 := psum (fun x => psum (mtF2 M i j x) 4) 4
theorem psum_zero {f : Nat → Int32} {n : Nat} (h : ∀ j, j < n → f j = 0) : psum f n = 0 := by
  induction n with
  | zero => rfl
  | succ n ih => rw [psum, ih (fun j hj => h j (by omega)), h n (by omega)]; rfl
theorem l_match2 {M : Mem} {i j x : Nat} {A : Int32} {Post : Option Value → Mem → Prop} (hi : i < 48) (hj : j < 48) (hx : x < 4) (hp : G mX1_match 5 [some (.ref 4), some (.int (nI i)), some (.int (nI j)), some (.int (A + psum (mtF2 M i j x) 4)), some (.int (nI (x + 1))), none, none] [] M Post) : ∀ d y, d = 4 - y → y ≤ 4 → G mX1_match 30 [some (.ref 4), some (.int (nI i)), some (.int (nI j)), some (.int (A + psum (mtF2 M i j x) y)), some (.int (nI x)), some (.int (M 6 (i * 4 + x))), some (.int (nI y))] [] M Post := by
  intro d
  induction d using Nat.strongRecOn with
  | ind d ih =>
    intro y hd hy
    refine blk 1 [(.iload 5, 0, 0, 0)] [] (by decide +kernel) rfl (pc' := 32) (ls' := [some (.ref 4), some (.int (nI i)), some (.int (nI j)), some (.int (A + psum (mtF2 M i j x) y)), some (.int (nI x)), some (.int (M 6 (i * 4 + x))), some (.int (nI y))]) (st' := [.int (M 6 (i * 4 + x))]) (M' := M) rfl ⟨trivial, trivial⟩ ?_
    refine g_if_eq (off := 51) (tgt := 83) (by decide +kernel) (by decide) (fun c1 => ?_) (fun c1 => ?_)
    · refine blk 1 [(.iinc 4 1, 0, 0, (nI 1)), (.goto (-81), 5, 0, 0)] [] (by decide +kernel) rfl (pc' := 5) (ls' := [some (.ref 4), some (.int (nI i)), some (.int (nI j)), some (.int (A + psum (mtF2 M i j x) y)), some (.int (nI x + nI 1)), some (.int (M 6 (i * 4 + x))), some (.int (nI y))]) (st' := []) (M' := M) rfl ⟨trivial, trivial, trivial⟩ ?_
      have e : psum (mtF2 M i j x) y = psum (mtF2 M i j x) 4 := by
        rw [psum_zero (fun a _ => by simp only [mtF2]; rw [c1, Int32.zero_mul, Int32.zero_mul]), psum_zero (fun a _ => by simp only [mtF2]; rw [c1, Int32.zero_mul, Int32.zero_mul])]
      refine G.sub (ls' := [some (.ref 4), some (.int (nI i)), some (.int (nI j)), some (.int (A + psum (mtF2 M i j x) 4)), some (.int (nI (x + 1))), none, none]) ?_ ⟨rfl, rfl, rfl, congrArg (fun z => some (Value.int z)) (by rw [e]), congrArg (fun z => some (Value.int z)) (by simp only [nI_add, nI_s1]), trivial⟩
      exact hp
    · refine blk 1 [(.iload 6, 0, 0, 0), (.iconst 4, 0, 0, (nI 4))] [] (by decide +kernel) rfl (pc' := 38) (ls' := [some (.ref 4), some (.int (nI i)), some (.int (nI j)), some (.int (A + psum (mtF2 M i j x) y)), some (.int (nI x)), some (.int (M 6 (i * 4 + x))), some (.int (nI y))]) (st' := [.int (nI 4), .int (nI y)]) (M' := M) rfl ⟨trivial, trivial, trivial⟩ ?_
      refine g_icmp_ge (off := 45) (tgt := 83) (by decide +kernel) (by decide) (fun c2 => ?_) (fun c2 => ?_)
      · have nc2 : 4 ≤ y := (nI_leI (by omega) (by omega)).mp (by simpa only [nI_add, pk_mul, nI_s1, n0_lit] using c2)
        refine blk 1 [(.iinc 4 1, 0, 0, (nI 1)), (.goto (-81), 5, 0, 0)] [] (by decide +kernel) rfl (pc' := 5) (ls' := [some (.ref 4), some (.int (nI i)), some (.int (nI j)), some (.int (A + psum (mtF2 M i j x) y)), some (.int (nI x + nI 1)), some (.int (M 6 (i * 4 + x))), some (.int (nI y))]) (st' := []) (M' := M) rfl ⟨trivial, trivial, trivial⟩ ?_
        have e : psum (mtF2 M i j x) y = psum (mtF2 M i j x) 4 := by rw [show y = 4 by omega]
        refine G.sub (ls' := [some (.ref 4), some (.int (nI i)), some (.int (nI j)), some (.int (A + psum (mtF2 M i j x) 4)), some (.int (nI (x + 1))), none, none]) ?_ ⟨rfl, rfl, rfl, congrArg (fun z => some (Value.int z)) (by rw [e]), congrArg (fun z => some (Value.int z)) (by simp only [nI_add, nI_s1]), trivial⟩
        exact hp
      · have nc2 : y < 4 := by
          have z : ¬ nI 4 ≤ nI y := by simpa only [nI_add, pk_mul, nI_s1, n0_lit] using c2
          rw [nI_leI (by omega) (by omega)] at z
          omega
        refine blk 1 [(.iload_n 3, 0, 0, 0), (.iload 5, 0, 0, 0), (.aload_n 0, 0, 0, 0), (.getfield 18, 1, 2, 0), (.getfield 102, 4, 0, 0), (.iload_n 2, 0, 0, 0), (.iconst 4, 0, 0, (nI 4)), (.imul, 0, 0, 0), (.iload 6, 0, 0, 0), (.iadd, 0, 0, 0), (.iaload, 0, 0, 0), (.imul, 0, 0, 0), (.aload_n 0, 0, 0, 0), (.getfield 30, 1, 0, 0), (.getfield 105, 0, 0, 0), (.iload 4, 0, 0, 0), (.iconst 4, 0, 0, (nI 4)), (.imul, 0, 0, 0), (.iload 6, 0, 0, 0), (.iadd, 0, 0, 0), (.iaload, 0, 0, 0), (.imul, 0, 0, 0), (.iadd, 0, 0, 0), (.istore_n 3, 0, 0, 0), (.iinc 6 1, 0, 0, (nI 1)), (.goto (-50), 30, 0, 0)] [j * 4 + y, x * 4 + y] (by decide +kernel) rfl (pc' := 30) (ls' := [some (.ref 4), some (.int (nI i)), some (.int (nI j)), some (.int ((A + psum (mtF2 M i j x) y) + (((M 6 (i * 4 + x)) * (M 9 (j * 4 + y))) * (M 3 (x * 4 + y))))), some (.int (nI x)), some (.int (M 6 (i * 4 + x))), some (.int (nI y + nI 1))]) (st' := []) (M' := M) rfl ⟨trivial, trivial, trivial, rfl, rfl, trivial, trivial, trivial, trivial, trivial, ⟨(by simp only [nI_add, pk_mul, nI_s1, Nat.reduceAdd, Nat.reduceMul]), (by show _ < 192; omega)⟩, trivial, trivial, rfl, rfl, trivial, trivial, trivial, trivial, trivial, ⟨(by simp only [nI_add, pk_mul, nI_s1, Nat.reduceAdd, Nat.reduceMul]), (by show _ < 16; omega)⟩, trivial, trivial, trivial, trivial, trivial, trivial⟩ ?_
        refine G.sub (ls' := [some (.ref 4), some (.int (nI i)), some (.int (nI j)), some (.int (A + psum (mtF2 M i j x) (y + 1))), some (.int (nI x)), some (.int (M 6 (i * 4 + x))), some (.int (nI (y + 1)))]) ?_ ⟨rfl, rfl, rfl, congrArg (fun z => some (Value.int z)) (by rw [psum, ← Int32.add_assoc]; rfl), rfl, rfl, congrArg (fun z => some (Value.int z)) (by simp only [nI_add, nI_s1]), trivial⟩
        exact ih (d - 1) (by omega) (y + 1) (by omega) (by omega)
theorem l_match {M : Mem} {i j : Nat} (hi : i < 48) (hj : j < 48) : ∀ d x, d = 4 - x → x ≤ 4 → G mX1_match 5 [some (.ref 4), some (.int (nI i)), some (.int (nI j)), some (.int (psum (fun x => psum (mtF2 M i j x) 4) x)), some (.int (nI x)), none, none] [] M (Ret (mtF M i j) M) := by
  intro d
  induction d using Nat.strongRecOn with
  | ind d ih =>
    intro x hd hy
    refine blk 1 [(.iload 4, 0, 0, 0), (.iconst 4, 0, 0, (nI 4))] [] (by decide +kernel) rfl (pc' := 8) (ls' := [some (.ref 4), some (.int (nI i)), some (.int (nI j)), some (.int (psum (fun x => psum (mtF2 M i j x) 4) x)), some (.int (nI x)), none, none]) (st' := [.int (nI 4), .int (nI x)]) (M' := M) rfl ⟨trivial, trivial, trivial⟩ ?_
    refine g_icmp_ge (off := 81) (tgt := 89) (by decide +kernel) (by decide) (fun c1 => ?_) (fun c1 => ?_)
    · have nc1 : 4 ≤ x := (nI_leI (by omega) (by omega)).mp (by simpa only [nI_add, pk_mul, nI_s1, n0_lit] using c1)
      refine blk 1 [(.iload_n 3, 0, 0, 0)] [] (by decide +kernel) rfl (pc' := 90) (ls' := [some (.ref 4), some (.int (nI i)), some (.int (nI j)), some (.int (psum (fun x => psum (mtF2 M i j x) 4) x)), some (.int (nI x)), none, none]) (st' := [.int (psum (fun x => psum (mtF2 M i j x) 4) x)]) (M' := M) rfl ⟨trivial, trivial⟩ ?_
      have e : x = 4 := by omega
      subst e
      exact g_ireturn (by decide +kernel) rfl rfl ⟨rfl, rfl⟩
    · have nc1 : x < 4 := by
        have z : ¬ nI 4 ≤ nI x := by simpa only [nI_add, pk_mul, nI_s1, n0_lit] using c1
        rw [nI_leI (by omega) (by omega)] at z
        omega
      refine blk 1 [(.aload_n 0, 0, 0, 0), (.getfield 12, 1, 1, 0), (.getfield 102, 4, 0, 0), (.iload_n 1, 0, 0, 0), (.iconst 4, 0, 0, (nI 4)), (.imul, 0, 0, 0), (.iload 4, 0, 0, 0), (.iadd, 0, 0, 0), (.iaload, 0, 0, 0), (.istore 5, 0, 0, 0), (.iconst 0, 0, 0, (nI 0)), (.istore 6, 0, 0, 0)] [i * 4 + x] (by decide +kernel) rfl (pc' := 30) (ls' := [some (.ref 4), some (.int (nI i)), some (.int (nI j)), some (.int (psum (fun x => psum (mtF2 M i j x) 4) x)), some (.int (nI x)), some (.int (M 6 (i * 4 + x))), some (.int (nI 0))]) (st' := []) (M' := M) rfl ⟨trivial, rfl, rfl, trivial, trivial, trivial, trivial, trivial, ⟨(by simp only [nI_add, pk_mul, nI_s1, Nat.reduceAdd, Nat.reduceMul]), (by show _ < 192; omega)⟩, trivial, trivial, trivial, trivial⟩ ?_
      refine G.sub (ls' := [some (.ref 4), some (.int (nI i)), some (.int (nI j)), some (.int (psum (fun x => psum (mtF2 M i j x) 4) x + psum (mtF2 M i j x) 0)), some (.int (nI x)), some (.int (M 6 (i * 4 + x))), some (.int (nI 0))]) ?_ ⟨rfl, rfl, rfl, congrArg (fun z => some (Value.int z)) (Int32.add_zero _).symm, rfl, rfl, rfl, trivial⟩
      exact l_match2 hi hj (by omega) (ih (d - 1) (by omega) (x + 1) (by omega) (by omega)) _ 0 rfl (by omega)
theorem s_match (M : Mem) {i j : Nat} (hi : i < 48) (hj : j < 48) : Spec mX1_match [.ref 4, .int (nI i), .int (nI j)] M (Ret (mtF M i j) M) := by
  refine Spec.of (by decide) (by simp [Value.category]) (Nat.le_of_ble_eq_true rfl) ?_
  refine blk 1 [(.iconst 0, 0, 0, (nI 0)), (.istore_n 3, 0, 0, 0), (.iconst 0, 0, 0, (nI 0)), (.istore 4, 0, 0, 0)] [] (by decide +kernel) rfl (pc' := 5) (ls' := [some (.ref 4), some (.int (nI i)), some (.int (nI j)), some (.int (nI 0)), some (.int (nI 0)), none, none]) (st' := []) (M' := M) rfl ⟨trivial, trivial, trivial, trivial, trivial⟩ ?_
  exact l_match hi hj _ 0 rfl (by omega)
/-- the worth behind a step s after a step l, out of the three looked-up ones -/
def waV (b L R op : Int32) (l s : Nat) : Int32 := if s = 0 then b else if s = 1 then (if s = l then L else L - op) else (if s = l then R else R - op)
def chV (b L R op : Int32) (l : Nat) : Nat := if ¬ b < waV b L R op l 1 ∧ ¬ b < waV b L R op l 2 then 0 else if ¬ waV b L R op l 1 < waV b L R op l 2 then 1 else 2
def waF (M : Mem) (l s : Nat) : Int32 := waV (M 4 7) (M 4 8) (M 4 9) (M 4 6) l s
def chF (M : Mem) (l : Nat) : Nat := chV (M 4 7) (M 4 8) (M 4 9) (M 4 6) l
theorem chV_le (b L R op : Int32) (l : Nat) : chV b L R op l ≤ 2 := by unfold chV; split <;> (try split) <;> omega
theorem s_worthAfter (M : Mem) {l s : Nat} (hl : l ≤ 2) (hs : s ≤ 2) : Spec mX1_worthAfter [.ref 4, .int (nI l), .int (nI s)] M (Ret (waF M l s) M) := by
  refine Spec.of (by decide) (by simp [Value.category]) (Nat.le_of_ble_eq_true rfl) ?_
  refine blk 1 [(.iload_n 2, 0, 0, 0)] [] (by decide +kernel) rfl (pc' := 1) (ls' := [some (.ref 4), some (.int (nI l)), some (.int (nI s)), none]) (st' := [.int (nI s)]) (M' := M) rfl ⟨trivial, trivial⟩ ?_
  refine g_if_ne (off := 8) (tgt := 9) (by decide +kernel) (by decide) (fun c1 => ?_) (fun c1 => ?_)
  · have nc1 : s ≠ 0 := by
      have z : ¬ nI s = nI 0 := by simpa only [nI_add, pk_mul, nI_s1, n0_lit] using c1
      rw [nI_eq (by omega) (by omega)] at z
      omega
    refine blk 1 [(.iload_n 2, 0, 0, 0), (.iconst 1, 0, 0, (nI 1))] [] (by decide +kernel) rfl (pc' := 11) (ls' := [some (.ref 4), some (.int (nI l)), some (.int (nI s)), none]) (st' := [.int (nI 1), .int (nI s)]) (M' := M) rfl ⟨trivial, trivial, trivial⟩ ?_
    refine g_icmp_ne (off := 10) (tgt := 21) (by decide +kernel) (by decide) (fun c2 => ?_) (fun c2 => ?_)
    · have nc2 : s ≠ 1 := by
        have z : ¬ nI s = nI 1 := by simpa only [nI_add, pk_mul, nI_s1, n0_lit] using c2
        rw [nI_eq (by omega) (by omega)] at z
        omega
      refine blk 1 [(.aload_n 0, 0, 0, 0), (.getfield 90, 1, 9, 0), (.istore_n 3, 0, 0, 0), (.iload_n 2, 0, 0, 0), (.iload_n 1, 0, 0, 0)] [] (by decide +kernel) rfl (pc' := 28) (ls' := [some (.ref 4), some (.int (nI l)), some (.int (nI s)), some (.int (M 4 9))]) (st' := [.int (nI l), .int (nI s)]) (M' := M) rfl ⟨trivial, rfl, trivial, trivial, trivial, trivial⟩ ?_
      refine g_icmp_ne (off := 7) (tgt := 35) (by decide +kernel) (by decide) (fun c3 => ?_) (fun c3 => ?_)
      · have nc3 : s ≠ l := by
          have z : ¬ nI s = nI l := by simpa only [nI_add, pk_mul, nI_s1, n0_lit] using c3
          rw [nI_eq (by omega) (by omega)] at z
          omega
        refine blk 1 [(.iload_n 3, 0, 0, 0), (.aload_n 0, 0, 0, 0), (.getfield 47, 1, 6, 0), (.isub, 0, 0, 0)] [] (by decide +kernel) rfl (pc' := 41) (ls' := [some (.ref 4), some (.int (nI l)), some (.int (nI s)), some (.int (M 4 9))]) (st' := [.int ((M 4 9) - (M 4 6))]) (M' := M) rfl ⟨trivial, trivial, rfl, trivial, trivial⟩ ?_
        exact g_ireturn (by decide +kernel) rfl rfl ⟨by unfold waF waV; grind, rfl⟩
      · have nc3 : s = l := (nI_eq (by omega) (by omega)).mp (by simpa only [nI_add, pk_mul, nI_s1, n0_lit] using c3)
        refine blk 1 [(.iload_n 3, 0, 0, 0), (.goto (9), 41, 0, 0)] [] (by decide +kernel) rfl (pc' := 41) (ls' := [some (.ref 4), some (.int (nI l)), some (.int (nI s)), some (.int (M 4 9))]) (st' := [.int (M 4 9)]) (M' := M) rfl ⟨trivial, trivial, trivial⟩ ?_
        exact g_ireturn (by decide +kernel) rfl rfl ⟨by unfold waF waV; grind, rfl⟩
    · have nc2 : s = 1 := (nI_eq (by omega) (by omega)).mp (by simpa only [nI_add, pk_mul, nI_s1, n0_lit] using c2)
      refine blk 1 [(.aload_n 0, 0, 0, 0), (.getfield 87, 1, 8, 0), (.goto (7), 25, 0, 0), (.istore_n 3, 0, 0, 0), (.iload_n 2, 0, 0, 0), (.iload_n 1, 0, 0, 0)] [] (by decide +kernel) rfl (pc' := 28) (ls' := [some (.ref 4), some (.int (nI l)), some (.int (nI s)), some (.int (M 4 8))]) (st' := [.int (nI l), .int (nI s)]) (M' := M) rfl ⟨trivial, rfl, trivial, trivial, trivial, trivial, trivial⟩ ?_
      refine g_icmp_ne (off := 7) (tgt := 35) (by decide +kernel) (by decide) (fun c4 => ?_) (fun c4 => ?_)
      · have nc4 : s ≠ l := by
          have z : ¬ nI s = nI l := by simpa only [nI_add, pk_mul, nI_s1, n0_lit] using c4
          rw [nI_eq (by omega) (by omega)] at z
          omega
        refine blk 1 [(.iload_n 3, 0, 0, 0), (.aload_n 0, 0, 0, 0), (.getfield 47, 1, 6, 0), (.isub, 0, 0, 0)] [] (by decide +kernel) rfl (pc' := 41) (ls' := [some (.ref 4), some (.int (nI l)), some (.int (nI s)), some (.int (M 4 8))]) (st' := [.int ((M 4 8) - (M 4 6))]) (M' := M) rfl ⟨trivial, trivial, rfl, trivial, trivial⟩ ?_
        exact g_ireturn (by decide +kernel) rfl rfl ⟨by unfold waF waV; grind, rfl⟩
      · have nc4 : s = l := (nI_eq (by omega) (by omega)).mp (by simpa only [nI_add, pk_mul, nI_s1, n0_lit] using c4)
        refine blk 1 [(.iload_n 3, 0, 0, 0), (.goto (9), 41, 0, 0)] [] (by decide +kernel) rfl (pc' := 41) (ls' := [some (.ref 4), some (.int (nI l)), some (.int (nI s)), some (.int (M 4 8))]) (st' := [.int (M 4 8)]) (M' := M) rfl ⟨trivial, trivial, trivial⟩ ?_
        exact g_ireturn (by decide +kernel) rfl rfl ⟨by unfold waF waV; grind, rfl⟩
  · have nc1 : s = 0 := (nI_eq (by omega) (by omega)).mp (by simpa only [nI_add, pk_mul, nI_s1, n0_lit] using c1)
    refine blk 1 [(.aload_n 0, 0, 0, 0), (.getfield 84, 1, 7, 0)] [] (by decide +kernel) rfl (pc' := 8) (ls' := [some (.ref 4), some (.int (nI l)), some (.int (nI s)), none]) (st' := [.int (M 4 7)]) (M' := M) rfl ⟨trivial, rfl, trivial⟩ ?_
    exact g_ireturn (by decide +kernel) rfl rfl ⟨by unfold waF waV; grind, rfl⟩
theorem s_choose (M : Mem) {l : Nat} (hl : l ≤ 2) : Spec mX1_choose [.ref 4, .int (nI l)] M (Ret (nI (chF M l)) M) := by
  refine Spec.of (by decide) (by simp [Value.category]) (Nat.le_of_ble_eq_true rfl) ?_
  refine blk 1 [(.aload_n 0, 0, 0, 0), (.iload_n 1, 0, 0, 0), (.iconst 1, 0, 0, (nI 1))] [] (by decide +kernel) rfl (pc' := 3) (ls' := [some (.ref 4), some (.int (nI l)), none, none]) (st' := [.int (nI 1), .int (nI l), .ref 4]) (M' := M) rfl ⟨trivial, trivial, trivial, trivial⟩ ?_
  refine g_callV (s_worthAfter M (l := l) (s := 1) hl (by decide)) ok_X1_choose_X1_worthAfter (by decide +kernel) rfl (c := 1) rfl (by decide) rfl (Nat.le_of_ble_eq_true rfl) (fun r M' h => ?_) rfl
  obtain ⟨hr, hM⟩ := h
  rw [hr, hM]
  show G _ 6 [some (.ref 4), some (.int (nI l)), none, none] [.int (waF M l 1)] M _
  refine blk 1 [(.istore_n 2, 0, 0, 0), (.aload_n 0, 0, 0, 0), (.iload_n 1, 0, 0, 0), (.iconst 2, 0, 0, (nI 2))] [] (by decide +kernel) rfl (pc' := 10) (ls' := [some (.ref 4), some (.int (nI l)), some (.int (waF M l 1)), none]) (st' := [.int (nI 2), .int (nI l), .ref 4]) (M' := M) rfl ⟨trivial, trivial, trivial, trivial, trivial⟩ ?_
  refine g_callV (s_worthAfter M (l := l) (s := 2) hl (by decide)) ok_X1_choose_X1_worthAfter (by decide +kernel) rfl (c := 1) rfl (by decide) rfl (Nat.le_of_ble_eq_true rfl) (fun r M' h => ?_) rfl
  obtain ⟨hr, hM⟩ := h
  rw [hr, hM]
  show G _ 13 [some (.ref 4), some (.int (nI l)), some (.int (waF M l 1)), none] [.int (waF M l 2)] M _
  refine blk 1 [(.istore_n 3, 0, 0, 0), (.aload_n 0, 0, 0, 0), (.getfield 84, 1, 7, 0), (.iload_n 2, 0, 0, 0)] [] (by decide +kernel) rfl (pc' := 19) (ls' := [some (.ref 4), some (.int (nI l)), some (.int (waF M l 1)), some (.int (waF M l 2))]) (st' := [.int (waF M l 1), .int (M 4 7)]) (M' := M) rfl ⟨trivial, trivial, rfl, trivial, trivial⟩ ?_
  refine g_icmp_lt (off := 13) (tgt := 32) (by decide +kernel) (by decide) (fun c1 => ?_) (fun c1 => ?_)
  · refine blk 1 [(.iload_n 2, 0, 0, 0), (.iload_n 3, 0, 0, 0)] [] (by decide +kernel) rfl (pc' := 34) (ls' := [some (.ref 4), some (.int (nI l)), some (.int (waF M l 1)), some (.int (waF M l 2))]) (st' := [.int (waF M l 2), .int (waF M l 1)]) (M' := M) rfl ⟨trivial, trivial, trivial⟩ ?_
    refine g_icmp_lt (off := 7) (tgt := 41) (by decide +kernel) (by decide) (fun c2 => ?_) (fun c2 => ?_)
    · refine blk 1 [(.iconst 2, 0, 0, (nI 2))] [] (by decide +kernel) rfl (pc' := 42) (ls' := [some (.ref 4), some (.int (nI l)), some (.int (waF M l 1)), some (.int (waF M l 2))]) (st' := [.int (nI 2)]) (M' := M) rfl ⟨trivial, trivial⟩ ?_
      refine g_ireturn (by decide +kernel) rfl rfl ⟨?_, rfl⟩
      unfold chF chV
      unfold waF at *
      simp [*]
    · refine blk 1 [(.iconst 1, 0, 0, (nI 1)), (.goto (4), 42, 0, 0)] [] (by decide +kernel) rfl (pc' := 42) (ls' := [some (.ref 4), some (.int (nI l)), some (.int (waF M l 1)), some (.int (waF M l 2))]) (st' := [.int (nI 1)]) (M' := M) rfl ⟨trivial, trivial, trivial⟩ ?_
      refine g_ireturn (by decide +kernel) rfl rfl ⟨?_, rfl⟩
      unfold chF chV
      unfold waF at *
      simp [*]
  · refine blk 1 [(.aload_n 0, 0, 0, 0), (.getfield 84, 1, 7, 0), (.iload_n 3, 0, 0, 0)] [] (by decide +kernel) rfl (pc' := 27) (ls' := [some (.ref 4), some (.int (nI l)), some (.int (waF M l 1)), some (.int (waF M l 2))]) (st' := [.int (waF M l 2), .int (M 4 7)]) (M' := M) rfl ⟨trivial, rfl, trivial, trivial⟩ ?_
    refine g_icmp_lt (off := 5) (tgt := 32) (by decide +kernel) (by decide) (fun c3 => ?_) (fun c3 => ?_)
    · refine blk 1 [(.iload_n 2, 0, 0, 0), (.iload_n 3, 0, 0, 0)] [] (by decide +kernel) rfl (pc' := 34) (ls' := [some (.ref 4), some (.int (nI l)), some (.int (waF M l 1)), some (.int (waF M l 2))]) (st' := [.int (waF M l 2), .int (waF M l 1)]) (M' := M) rfl ⟨trivial, trivial, trivial⟩ ?_
      refine g_icmp_lt (off := 7) (tgt := 41) (by decide +kernel) (by decide) (fun c4 => ?_) (fun c4 => ?_)
      · refine blk 1 [(.iconst 2, 0, 0, (nI 2))] [] (by decide +kernel) rfl (pc' := 42) (ls' := [some (.ref 4), some (.int (nI l)), some (.int (waF M l 1)), some (.int (waF M l 2))]) (st' := [.int (nI 2)]) (M' := M) rfl ⟨trivial, trivial⟩ ?_
        refine g_ireturn (by decide +kernel) rfl rfl ⟨?_, rfl⟩
        unfold chF chV
        unfold waF at *
        simp [*]
      · refine blk 1 [(.iconst 1, 0, 0, (nI 1)), (.goto (4), 42, 0, 0)] [] (by decide +kernel) rfl (pc' := 42) (ls' := [some (.ref 4), some (.int (nI l)), some (.int (waF M l 1)), some (.int (waF M l 2))]) (st' := [.int (nI 1)]) (M' := M) rfl ⟨trivial, trivial, trivial⟩ ?_
        refine g_ireturn (by decide +kernel) rfl rfl ⟨?_, rfl⟩
        unfold chF chV
        unfold waF at *
        simp [*]
    · refine blk 1 [(.iconst 0, 0, 0, (nI 0))] [] (by decide +kernel) rfl (pc' := 31) (ls' := [some (.ref 4), some (.int (nI l)), some (.int (waF M l 1)), some (.int (waF M l 2))]) (st' := [.int (nI 0)]) (M' := M) rfl ⟨trivial, trivial⟩ ?_
      refine g_ireturn (by decide +kernel) rfl rfl ⟨?_, rfl⟩
      unfold chF chV
      unfold waF at *
      simp [*]
