/-! the reference: bothAt, prepare -/
def baF (M : Mem) (i j v : Nat) : Nat → Int32 := fun w => if ¬ hb (M 72 25) v = 0 ∧ ¬ hb (M 72 26) w = 0 ∧ ¬ M 90 (60 * v + i) = -1 ∧ ¬ M 91 (60 * w + j) = -1 then M 77 (4 * cd (M 90 (60 * v + i)) + cd (M 91 (60 * w + j))) * M 39 v * M 39 w else 0
theorem ixy {x y : Int32} {a b : Nat} (h1 : x = nI a) (h2 : y = nI b) : nI 4 * x + y = nI (4 * a + b) := by rw [h1, h2, pk_mul, nI_add]
/-- the cells of the two groups are cells -/
def mcell (M : Mem) (p q : Nat) : Prop := (∀ v k, v < 5 → k < p → ¬ hb (M 72 25) v = 0 → okc (M 90 (60 * v + k))) ∧ (∀ v k, v < 5 → k < q → ¬ hb (M 72 26) v = 0 → okc (M 91 (60 * v + k)))
theorem l_both2 {M : Mem} {p q i j v : Nat} {A : Int32} {Post : Option Value → Mem → Prop} (hp6 : p ≤ 60) (hq6 : q ≤ 60) (hc : mcell M p q) (hi : i < p) (hj : j < q) (hv : v < 5) (hp : G mX7_bothAt 5 [some (.ref 72), some (.int (nI i)), some (.int (nI j)), some (.int (A + psum (baF M i j v) 5)), some (.int (nI (v + 1))), none] [] M Post) : ∀ d w, d = 5 - w → w ≤ 5 → G mX7_bothAt 14 [some (.ref 72), some (.int (nI i)), some (.int (nI j)), some (.int (A + psum (baF M i j v) w)), some (.int (nI v)), some (.int (nI w))] [] M Post := by
  intro d
  induction d using Nat.strongRecOn with
  | ind d ih =>
    intro w hd hw
    refine blk 7 [(.iload 5, 0, 0, 0), (.iconst 5, 0, 0, (nI 5))] [] (by decide +kernel) rfl (pc' := 17) (ls' := [some (.ref 72), some (.int (nI i)), some (.int (nI j)), some (.int (A + psum (baF M i j v) w)), some (.int (nI v)), some (.int (nI w))]) (st' := [.int (nI 5), .int (nI w)]) (M' := M) rfl ⟨trivial, trivial, trivial⟩ ?_
    refine g_icmp_ge (off := 118) (tgt := 135) (by decide +kernel) (by decide) (fun c1 => ?_) (fun c1 => ?_)
    · have nc1 : 5 ≤ w := (nI_leI (by omega) (by omega)).mp (by simpa only [nI_add, pk_mul, nI_s1, n0_lit] using c1)
      refine blk 7 [(.iinc 4 1, 0, 0, (nI 1)), (.goto (-133), 5, 0, 0)] [] (by decide +kernel) rfl (pc' := 5) (ls' := [some (.ref 72), some (.int (nI i)), some (.int (nI j)), some (.int (A + psum (baF M i j v) w)), some (.int (nI v + nI 1)), some (.int (nI w))]) (st' := []) (M' := M) rfl ⟨trivial, trivial, trivial⟩ ?_
      have e : w = 5 := by omega
      subst e
      refine G.sub (ls' := [some (.ref 72), some (.int (nI i)), some (.int (nI j)), some (.int (A + psum (baF M i j v) 5)), some (.int (nI (v + 1))), none]) ?_ ⟨rfl, rfl, rfl, congrArg (fun z => some (Value.int z)) rfl, congrArg (fun z => some (Value.int z)) (by simp only [nI_add, nI_s1]), trivial⟩
      exact hp
    · have nc1 : w < 5 := by
        have z : ¬ nI 5 ≤ nI w := by simpa only [nI_add, pk_mul, nI_s1, n0_lit] using c1
        rw [nI_leI (by omega) (by omega)] at z
        omega
      refine blk 7 [(.aload_n 0, 0, 0, 0), (.aload_n 0, 0, 0, 0), (.getfield 118, 7, 25, 0), (.iload 4, 0, 0, 0)] [] (by decide +kernel) rfl (pc' := 27) (ls' := [some (.ref 72), some (.int (nI i)), some (.int (nI j)), some (.int (A + psum (baF M i j v) w)), some (.int (nI v)), some (.int (nI w))]) (st' := [.int (nI v), .int (M 72 25), .ref 72]) (M' := M) rfl ⟨trivial, trivial, rfl, trivial, trivial⟩ ?_
      refine g_callV (s_isIn M (M 72 25) v) ok_X7_bothAt_X7_isIn (by decide +kernel) rfl (c := 7) rfl (by decide) rfl (Nat.le_of_ble_eq_true rfl) (fun r M' h => ?_) rfl
      obtain ⟨hr, hM⟩ := h
      rw [hr, hM]
      show G _ 30 [some (.ref 72), some (.int (nI i)), some (.int (nI j)), some (.int (A + psum (baF M i j v) w)), some (.int (nI v)), some (.int (nI w))] [.int (hb (M 72 25) v)] M _
      refine g_if_eq (off := 99) (tgt := 129) (by decide +kernel) (by decide) (fun c2 => ?_) (fun c2 => ?_)
      · refine blk 7 [(.iinc 5 1, 0, 0, (nI 1)), (.goto (-118), 14, 0, 0)] [] (by decide +kernel) rfl (pc' := 14) (ls' := [some (.ref 72), some (.int (nI i)), some (.int (nI j)), some (.int (A + psum (baF M i j v) w)), some (.int (nI v)), some (.int (nI w + nI 1))]) (st' := []) (M' := M) rfl ⟨trivial, trivial, trivial⟩ ?_
        refine G.sub (ls' := [some (.ref 72), some (.int (nI i)), some (.int (nI j)), some (.int (A + psum (baF M i j v) (w + 1))), some (.int (nI v)), some (.int (nI (w + 1)))]) ?_ ⟨rfl, rfl, rfl, congrArg (fun z => some (Value.int z)) (by rw [psum, show baF M i j v w = 0 by simp only [baF]; rw [if_neg (fun z => z.1 c2)], Int32.add_zero]), rfl, congrArg (fun z => some (Value.int z)) (by simp only [nI_add, nI_s1]), trivial⟩
        exact ih (d - 1) (by omega) (w + 1) (by omega) (by omega)
      · refine blk 7 [(.aload_n 0, 0, 0, 0), (.aload_n 0, 0, 0, 0), (.getfield 124, 7, 26, 0), (.iload 5, 0, 0, 0)] [] (by decide +kernel) rfl (pc' := 40) (ls' := [some (.ref 72), some (.int (nI i)), some (.int (nI j)), some (.int (A + psum (baF M i j v) w)), some (.int (nI v)), some (.int (nI w))]) (st' := [.int (nI w), .int (M 72 26), .ref 72]) (M' := M) rfl ⟨trivial, trivial, rfl, trivial, trivial⟩ ?_
        refine g_callV (s_isIn M (M 72 26) w) ok_X7_bothAt_X7_isIn (by decide +kernel) rfl (c := 7) rfl (by decide) rfl (Nat.le_of_ble_eq_true rfl) (fun r M' h => ?_) rfl
        obtain ⟨hr, hM⟩ := h
        rw [hr, hM]
        show G _ 43 [some (.ref 72), some (.int (nI i)), some (.int (nI j)), some (.int (A + psum (baF M i j v) w)), some (.int (nI v)), some (.int (nI w))] [.int (hb (M 72 26) w)] M _
        refine g_if_eq (off := 86) (tgt := 129) (by decide +kernel) (by decide) (fun c3 => ?_) (fun c3 => ?_)
        · refine blk 7 [(.iinc 5 1, 0, 0, (nI 1)), (.goto (-118), 14, 0, 0)] [] (by decide +kernel) rfl (pc' := 14) (ls' := [some (.ref 72), some (.int (nI i)), some (.int (nI j)), some (.int (A + psum (baF M i j v) w)), some (.int (nI v)), some (.int (nI w + nI 1))]) (st' := []) (M' := M) rfl ⟨trivial, trivial, trivial⟩ ?_
          refine G.sub (ls' := [some (.ref 72), some (.int (nI i)), some (.int (nI j)), some (.int (A + psum (baF M i j v) (w + 1))), some (.int (nI v)), some (.int (nI (w + 1)))]) ?_ ⟨rfl, rfl, rfl, congrArg (fun z => some (Value.int z)) (by rw [psum, show baF M i j v w = 0 by simp only [baF]; rw [if_neg (fun z => z.2.1 c3)], Int32.add_zero]), rfl, congrArg (fun z => some (Value.int z)) (by simp only [nI_add, nI_s1]), trivial⟩
          exact ih (d - 1) (by omega) (w + 1) (by omega) (by omega)
        · refine blk 7 [(.aload_n 0, 0, 0, 0), (.getfield 65, 7, 29, 0), (.bipush 60, 0, 0, (nI 60)), (.iload 4, 0, 0, 0), (.imul, 0, 0, 0), (.iload_n 1, 0, 0, 0), (.iadd, 0, 0, 0), (.iaload, 0, 0, 0), (.iconst (-1), 0, 0, (-1))] [60 * v + i] (by decide +kernel) rfl (pc' := 59) (ls' := [some (.ref 72), some (.int (nI i)), some (.int (nI j)), some (.int (A + psum (baF M i j v) w)), some (.int (nI v)), some (.int (nI w))]) (st' := [.int (-1), .int (M 90 (60 * v + i))]) (M' := M) rfl ⟨trivial, rfl, trivial, trivial, trivial, trivial, trivial, ⟨(by simp only [nI_add, pk_mul, nI_s1, Nat.reduceAdd, Nat.reduceMul]), (by show _ < 300; omega)⟩, trivial, trivial⟩ ?_
          refine g_icmp_eq (off := 70) (tgt := 129) (by decide +kernel) (by decide) (fun c4 => ?_) (fun c4 => ?_)
          · refine blk 7 [(.iinc 5 1, 0, 0, (nI 1)), (.goto (-118), 14, 0, 0)] [] (by decide +kernel) rfl (pc' := 14) (ls' := [some (.ref 72), some (.int (nI i)), some (.int (nI j)), some (.int (A + psum (baF M i j v) w)), some (.int (nI v)), some (.int (nI w + nI 1))]) (st' := []) (M' := M) rfl ⟨trivial, trivial, trivial⟩ ?_
            refine G.sub (ls' := [some (.ref 72), some (.int (nI i)), some (.int (nI j)), some (.int (A + psum (baF M i j v) (w + 1))), some (.int (nI v)), some (.int (nI (w + 1)))]) ?_ ⟨rfl, rfl, rfl, congrArg (fun z => some (Value.int z)) (by rw [psum, show baF M i j v w = 0 by simp only [baF]; rw [if_neg (fun z => z.2.2.1 c4)], Int32.add_zero]), rfl, congrArg (fun z => some (Value.int z)) (by simp only [nI_add, nI_s1]), trivial⟩
            exact ih (d - 1) (by omega) (w + 1) (by omega) (by omega)
          · refine blk 7 [(.aload_n 0, 0, 0, 0), (.getfield 68, 7, 30, 0), (.bipush 60, 0, 0, (nI 60)), (.iload 5, 0, 0, 0), (.imul, 0, 0, 0), (.iload_n 2, 0, 0, 0), (.iadd, 0, 0, 0), (.iaload, 0, 0, 0), (.iconst (-1), 0, 0, (-1))] [60 * w + j] (by decide +kernel) rfl (pc' := 75) (ls' := [some (.ref 72), some (.int (nI i)), some (.int (nI j)), some (.int (A + psum (baF M i j v) w)), some (.int (nI v)), some (.int (nI w))]) (st' := [.int (-1), .int (M 91 (60 * w + j))]) (M' := M) rfl ⟨trivial, rfl, trivial, trivial, trivial, trivial, trivial, ⟨(by simp only [nI_add, pk_mul, nI_s1, Nat.reduceAdd, Nat.reduceMul]), (by show _ < 300; omega)⟩, trivial, trivial⟩ ?_
            refine g_icmp_eq (off := 54) (tgt := 129) (by decide +kernel) (by decide) (fun c5 => ?_) (fun c5 => ?_)
            · refine blk 7 [(.iinc 5 1, 0, 0, (nI 1)), (.goto (-118), 14, 0, 0)] [] (by decide +kernel) rfl (pc' := 14) (ls' := [some (.ref 72), some (.int (nI i)), some (.int (nI j)), some (.int (A + psum (baF M i j v) w)), some (.int (nI v)), some (.int (nI w + nI 1))]) (st' := []) (M' := M) rfl ⟨trivial, trivial, trivial⟩ ?_
              refine G.sub (ls' := [some (.ref 72), some (.int (nI i)), some (.int (nI j)), some (.int (A + psum (baF M i j v) (w + 1))), some (.int (nI v)), some (.int (nI (w + 1)))]) ?_ ⟨rfl, rfl, rfl, congrArg (fun z => some (Value.int z)) (by rw [psum, show baF M i j v w = 0 by simp only [baF]; rw [if_neg (fun z => z.2.2.2 c5)], Int32.add_zero]), rfl, congrArg (fun z => some (Value.int z)) (by simp only [nI_add, nI_s1]), trivial⟩
              exact ih (d - 1) (by omega) (w + 1) (by omega) (by omega)
            · have ex := okc_cd (hc.1 v i (by omega) hi c2) c4
              have ey := okc_cd (hc.2 w j (by omega) hj c3) c5
              refine blk 7 [(.iload_n 3, 0, 0, 0), (.aload_n 0, 0, 0, 0), (.getfield 19, 7, 5, 0), (.iconst 4, 0, 0, (nI 4)), (.aload_n 0, 0, 0, 0), (.getfield 65, 7, 29, 0), (.bipush 60, 0, 0, (nI 60)), (.iload 4, 0, 0, 0), (.imul, 0, 0, 0), (.iload_n 1, 0, 0, 0), (.iadd, 0, 0, 0), (.iaload, 0, 0, 0), (.imul, 0, 0, 0), (.aload_n 0, 0, 0, 0), (.getfield 68, 7, 30, 0), (.bipush 60, 0, 0, (nI 60)), (.iload 5, 0, 0, 0), (.imul, 0, 0, 0), (.iload_n 2, 0, 0, 0), (.iadd, 0, 0, 0), (.iaload, 0, 0, 0), (.iadd, 0, 0, 0), (.iaload, 0, 0, 0), (.aload_n 0, 0, 0, 0), (.getfield 86, 7, 37, 0), (.iload 4, 0, 0, 0), (.iaload, 0, 0, 0), (.imul, 0, 0, 0), (.aload_n 0, 0, 0, 0), (.getfield 86, 7, 37, 0), (.iload 5, 0, 0, 0), (.iaload, 0, 0, 0), (.imul, 0, 0, 0), (.iadd, 0, 0, 0), (.istore_n 3, 0, 0, 0), (.iinc 5 1, 0, 0, (nI 1)), (.goto (-118), 14, 0, 0)] [60 * v + i, 60 * w + j, 4 * cd (M 90 (60 * v + i)) + cd (M 91 (60 * w + j)), v, w] (by decide +kernel) rfl (pc' := 14) (ls' := [some (.ref 72), some (.int (nI i)), some (.int (nI j)), some (.int ((A + psum (baF M i j v) w) + (((M 77 (4 * cd (M 90 (60 * v + i)) + cd (M 91 (60 * w + j)))) * (M 39 v)) * (M 39 w)))), some (.int (nI v)), some (.int (nI w + nI 1))]) (st' := []) (M' := M) rfl ⟨trivial, trivial, rfl, trivial, trivial, rfl, trivial, trivial, trivial, trivial, trivial, ⟨(by simp only [nI_add, pk_mul, nI_s1, Nat.reduceAdd, Nat.reduceMul]), (by show _ < 300; omega)⟩, trivial, trivial, rfl, trivial, trivial, trivial, trivial, trivial, ⟨(by simp only [nI_add, pk_mul, nI_s1, Nat.reduceAdd, Nat.reduceMul]), (by show _ < 300; omega)⟩, trivial, ⟨(ixy ex.1 ey.1), (by show _ < 16; omega)⟩, trivial, rfl, trivial, ⟨rfl, (by show _ < 5; omega)⟩, trivial, trivial, rfl, trivial, ⟨rfl, (by show _ < 5; omega)⟩, trivial, trivial, trivial, trivial, trivial, trivial⟩ ?_
              refine G.sub (ls' := [some (.ref 72), some (.int (nI i)), some (.int (nI j)), some (.int (A + psum (baF M i j v) (w + 1))), some (.int (nI v)), some (.int (nI (w + 1)))]) ?_ ⟨rfl, rfl, rfl, congrArg (fun z => some (Value.int z)) (by rw [psum, ← Int32.add_assoc]; congr 1; simp only [baF]; rw [if_pos ⟨c2, c3, c4, c5⟩]), rfl, congrArg (fun z => some (Value.int z)) (by simp only [nI_add, nI_s1]), trivial⟩
              exact ih (d - 1) (by omega) (w + 1) (by omega) (by omega)
def btF (M : Mem) (i j : Nat) : Int32 := psum (fun v => psum (baF M i j v) 5) 5
theorem l_both {M : Mem} {p q i j : Nat} (hp6 : p ≤ 60) (hq6 : q ≤ 60) (hc : mcell M p q) (hi : i < p) (hj : j < q) : ∀ d v, d = 5 - v → v ≤ 5 → G mX7_bothAt 5 [some (.ref 72), some (.int (nI i)), some (.int (nI j)), some (.int (psum (fun v => psum (baF M i j v) 5) v)), some (.int (nI v)), none] [] M (Ret (btF M i j) M) := by
  intro d
  induction d using Nat.strongRecOn with
  | ind d ih =>
    intro v hd hw
    refine blk 7 [(.iload 4, 0, 0, 0), (.iconst 5, 0, 0, (nI 5))] [] (by decide +kernel) rfl (pc' := 8) (ls' := [some (.ref 72), some (.int (nI i)), some (.int (nI j)), some (.int (psum (fun v => psum (baF M i j v) 5) v)), some (.int (nI v)), none]) (st' := [.int (nI 5), .int (nI v)]) (M' := M) rfl ⟨trivial, trivial, trivial⟩ ?_
    refine g_icmp_ge (off := 133) (tgt := 141) (by decide +kernel) (by decide) (fun c1 => ?_) (fun c1 => ?_)
    · have nc1 : 5 ≤ v := (nI_leI (by omega) (by omega)).mp (by simpa only [nI_add, pk_mul, nI_s1, n0_lit] using c1)
      refine blk 7 [(.iload_n 3, 0, 0, 0)] [] (by decide +kernel) rfl (pc' := 142) (ls' := [some (.ref 72), some (.int (nI i)), some (.int (nI j)), some (.int (psum (fun v => psum (baF M i j v) 5) v)), some (.int (nI v)), none]) (st' := [.int (psum (fun v => psum (baF M i j v) 5) v)]) (M' := M) rfl ⟨trivial, trivial⟩ ?_
      have e : v = 5 := by omega
      subst e
      exact g_ireturn (by decide +kernel) rfl rfl ⟨rfl, rfl⟩
    · have nc1 : v < 5 := by
        have z : ¬ nI 5 ≤ nI v := by simpa only [nI_add, pk_mul, nI_s1, n0_lit] using c1
        rw [nI_leI (by omega) (by omega)] at z
        omega
      refine blk 7 [(.iconst 0, 0, 0, (nI 0)), (.istore 5, 0, 0, 0)] [] (by decide +kernel) rfl (pc' := 14) (ls' := [some (.ref 72), some (.int (nI i)), some (.int (nI j)), some (.int (psum (fun v => psum (baF M i j v) 5) v)), some (.int (nI v)), some (.int (nI 0))]) (st' := []) (M' := M) rfl ⟨trivial, trivial, trivial⟩ ?_
      refine G.sub (ls' := [some (.ref 72), some (.int (nI i)), some (.int (nI j)), some (.int (psum (fun v => psum (baF M i j v) 5) v + psum (baF M i j v) 0)), some (.int (nI v)), some (.int (nI 0))]) ?_ ⟨rfl, rfl, rfl, congrArg (fun z => some (Value.int z)) (Int32.add_zero _).symm, rfl, rfl, trivial⟩
      exact l_both2 hp6 hq6 hc hi hj (by omega) (ih (d - 1) (by omega) (v + 1) (by omega) (by omega)) _ 0 rfl (by omega)
theorem s_both (M : Mem) {p q i j : Nat} (hp6 : p ≤ 60) (hq6 : q ≤ 60) (hc : mcell M p q) (hi : i < p) (hj : j < q) : Spec mX7_bothAt [.ref 72, .int (nI i), .int (nI j)] M (Ret (btF M i j) M) := by
  refine Spec.of (by decide) (by simp [Value.category]) (Nat.le_of_ble_eq_true rfl) ?_
  refine blk 7 [(.iconst 0, 0, 0, (nI 0)), (.istore_n 3, 0, 0, 0), (.iconst 0, 0, 0, (nI 0)), (.istore 4, 0, 0, 0)] [] (by decide +kernel) rfl (pc' := 5) (ls' := [some (.ref 72), some (.int (nI i)), some (.int (nI j)), some (.int (nI 0)), some (.int (nI 0)), none]) (st' := []) (M' := M) rfl ⟨trivial, trivial, trivial, trivial, trivial⟩ ?_
  exact l_both hp6 hq6 hc hi hj _ 0 rfl (by omega)
/-- the weights of the rows with a letter in column i: set in field f, cells in tag c -/
def pmF (M : Mem) (f c i : Nat) : Nat → Int32 := fun w => if ¬ hb (M 72 f) w = 0 ∧ ¬ M c (60 * w + i) = -1 then M 39 w else 0
theorem l_prepP2 {M : Mem} {i : Nat} {Post : Option Value → Mem → Prop} (hi : i < 60) (hp : ∀ N, (∀ z, z ≠ 94 → N z = M z) → (∀ k, k < i + 1 → N 94 k = psum (pmF M 25 90 k) 5) → G mX7_prepare 76 [some (.ref 72), some (.int (nI i)), none] [] N Post) : ∀ d w N, d = 5 - w → w ≤ 5 → (∀ z, z ≠ 94 → N z = M z) → (∀ k, k < i → N 94 k = psum (pmF M 25 90 k) 5) → N 94 i = psum (pmF M 25 90 i) w → G mX7_prepare 19 [some (.ref 72), some (.int (nI i)), some (.int (nI w))] [] N Post := by
  intro d
  induction d using Nat.strongRecOn with
  | ind d ih =>
    intro w N hd hw h0 j1 j2
    refine blk 7 [(.iload_n 2, 0, 0, 0), (.iconst 5, 0, 0, (nI 5))] [] (by decide +kernel) rfl (pc' := 21) (ls' := [some (.ref 72), some (.int (nI i)), some (.int (nI w))]) (st' := [.int (nI 5), .int (nI w)]) (M' := N) rfl ⟨trivial, trivial, trivial⟩ ?_
    refine g_icmp_ge (off := 55) (tgt := 76) (by decide +kernel) (by decide) (fun c1 => ?_) (fun c1 => ?_)
    · have nc1 : 5 ≤ w := (nI_leI (by omega) (by omega)).mp (by simpa only [nI_add, pk_mul, nI_s1, n0_lit] using c1)
      have e : w = 5 := by omega
      subst e
      refine G.sub (ls' := [some (.ref 72), some (.int (nI i)), none]) ?_ ⟨rfl, rfl, trivial⟩
      refine hp N h0 (fun k hk => ?_)
      by_cases e : k = i
      · subst e; exact j2
      · exact j1 k (by omega)
    · have nc1 : w < 5 := by
        have z : ¬ nI 5 ≤ nI w := by simpa only [nI_add, pk_mul, nI_s1, n0_lit] using c1
        rw [nI_leI (by omega) (by omega)] at z
        omega
      refine blk 7 [(.aload_n 0, 0, 0, 0), (.getfield 77, 7, 34, 0), (.iload_n 1, 0, 0, 0), (.dup2, 0, 0, 0), (.iaload, 0, 0, 0), (.aload_n 0, 0, 0, 0), (.aload_n 0, 0, 0, 0), (.getfield 118, 7, 25, 0), (.iload_n 2, 0, 0, 0)] [i] (by decide +kernel) rfl (pc' := 37) (ls' := [some (.ref 72), some (.int (nI i)), some (.int (nI w))]) (st' := [.int (nI w), .int (N 72 25), .ref 72, .int (N 94 i), .int (nI i), .ref 94]) (M' := N) rfl ⟨trivial, rfl, trivial, ⟨rfl, rfl⟩, ⟨rfl, (by show _ < 60; omega)⟩, trivial, trivial, rfl, trivial, trivial⟩ ?_
      refine g_callV (s_isIn N (N 72 25) w) ok_X7_prepare_X7_isIn (by decide +kernel) rfl (c := 7) rfl (by decide) rfl (Nat.le_of_ble_eq_true rfl) (fun r M' h => ?_) rfl
      obtain ⟨hr, hM⟩ := h
      rw [hr, hM]
      show G _ 40 [some (.ref 72), some (.int (nI i)), some (.int (nI w))] [.int (hb (N 72 25) w), .int (N 94 i), .int (nI i), .ref 94] N _
      refine g_if_eq (off := 27) (tgt := 67) (by decide +kernel) (by decide) (fun c2 => ?_) (fun c2 => ?_)
      · refine blk 7 [(.iconst 0, 0, 0, (nI 0)), (.iadd, 0, 0, 0), (.iastore, 0, 0, 0), (.iinc 2 1, 0, 0, (nI 1)), (.goto (-54), 19, 0, 0)] [i] (by decide +kernel) rfl (pc' := 19) (ls' := [some (.ref 72), some (.int (nI i)), some (.int (nI w + nI 1))]) (st' := []) (M' := stm N 94 i ((N 94 i) + (nI 0))) rfl ⟨trivial, trivial, ⟨rfl, (by show _ < 60; omega), by decide⟩, trivial, trivial, trivial⟩ ?_
        refine G.sub (ls' := [some (.ref 72), some (.int (nI i)), some (.int (nI (w + 1)))]) ?_ ⟨rfl, rfl, congrArg (fun z => some (Value.int z)) (by simp only [nI_add, nI_s1]), trivial⟩
        refine ih (d - 1) (by omega) (w + 1) _ (by omega) (by omega) (fun z hz => by rw [stm_ne hz]; exact h0 z hz) (fun k hk => by rw [stm_off (by omega)]; exact j1 k hk) ?_
        rw [stm_self]
        rw [show N 94 i = _ from j2, psum, show pmF M 25 90 i w = 0 by simp only [pmF]; rw [if_neg (fun z => z.1 (by rw [← h0 72 (by decide)]; exact c2))]]; rfl
      · refine blk 7 [(.aload_n 0, 0, 0, 0), (.getfield 65, 7, 29, 0), (.bipush 60, 0, 0, (nI 60)), (.iload_n 2, 0, 0, 0), (.imul, 0, 0, 0), (.iload_n 1, 0, 0, 0), (.iadd, 0, 0, 0), (.iaload, 0, 0, 0), (.iconst (-1), 0, 0, (-1))] [60 * w + i] (by decide +kernel) rfl (pc' := 55) (ls' := [some (.ref 72), some (.int (nI i)), some (.int (nI w))]) (st' := [.int (-1), .int (N 90 (60 * w + i)), .int (N 94 i), .int (nI i), .ref 94]) (M' := N) rfl ⟨trivial, rfl, trivial, trivial, trivial, trivial, trivial, ⟨(by simp only [nI_add, pk_mul, nI_s1, Nat.reduceAdd, Nat.reduceMul]), (by show _ < 300; omega)⟩, trivial, trivial⟩ ?_
        refine g_icmp_eq (off := 12) (tgt := 67) (by decide +kernel) (by decide) (fun c3 => ?_) (fun c3 => ?_)
        · refine blk 7 [(.iconst 0, 0, 0, (nI 0)), (.iadd, 0, 0, 0), (.iastore, 0, 0, 0), (.iinc 2 1, 0, 0, (nI 1)), (.goto (-54), 19, 0, 0)] [i] (by decide +kernel) rfl (pc' := 19) (ls' := [some (.ref 72), some (.int (nI i)), some (.int (nI w + nI 1))]) (st' := []) (M' := stm N 94 i ((N 94 i) + (nI 0))) rfl ⟨trivial, trivial, ⟨rfl, (by show _ < 60; omega), by decide⟩, trivial, trivial, trivial⟩ ?_
          refine G.sub (ls' := [some (.ref 72), some (.int (nI i)), some (.int (nI (w + 1)))]) ?_ ⟨rfl, rfl, congrArg (fun z => some (Value.int z)) (by simp only [nI_add, nI_s1]), trivial⟩
          refine ih (d - 1) (by omega) (w + 1) _ (by omega) (by omega) (fun z hz => by rw [stm_ne hz]; exact h0 z hz) (fun k hk => by rw [stm_off (by omega)]; exact j1 k hk) ?_
          rw [stm_self]
          rw [show N 94 i = _ from j2, psum, show pmF M 25 90 i w = 0 by simp only [pmF]; rw [if_neg (fun z => z.2 (by rw [← h0 90 (by decide)]; exact c3))]]; rfl
        · refine blk 7 [(.aload_n 0, 0, 0, 0), (.getfield 86, 7, 37, 0), (.iload_n 2, 0, 0, 0), (.iaload, 0, 0, 0), (.goto (4), 68, 0, 0), (.iadd, 0, 0, 0), (.iastore, 0, 0, 0), (.iinc 2 1, 0, 0, (nI 1)), (.goto (-54), 19, 0, 0)] [w, i] (by decide +kernel) rfl (pc' := 19) (ls' := [some (.ref 72), some (.int (nI i)), some (.int (nI w + nI 1))]) (st' := []) (M' := stm N 94 i ((N 94 i) + (N 39 w))) rfl ⟨trivial, rfl, trivial, ⟨rfl, (by show _ < 5; omega)⟩, trivial, trivial, ⟨rfl, (by show _ < 60; omega), by decide⟩, trivial, trivial, trivial⟩ ?_
          refine G.sub (ls' := [some (.ref 72), some (.int (nI i)), some (.int (nI (w + 1)))]) ?_ ⟨rfl, rfl, congrArg (fun z => some (Value.int z)) (by simp only [nI_add, nI_s1]), trivial⟩
          refine ih (d - 1) (by omega) (w + 1) _ (by omega) (by omega) (fun z hz => by rw [stm_ne hz]; exact h0 z hz) (fun k hk => by rw [stm_off (by omega)]; exact j1 k hk) ?_
          rw [stm_self]
          rw [show N 94 i = _ from j2, psum]; congr 1; simp only [pmF]; rw [if_pos ⟨by rw [← h0 72 (by decide)]; exact c2, by rw [← h0 90 (by decide)]; exact c3⟩, ← h0 39 (by decide)]
theorem l_prepP {M : Mem} {n : Nat} {Post : Option Value → Mem → Prop} (hn6 : n ≤ 60) (hn0 : M 72 27 = nI n) (hp : ∀ N, (∀ z, z ≠ 94 → N z = M z) → (∀ k, k < n → N 94 k = psum (pmF M 25 90 k) 5) → G mX7_prepare 82 [some (.ref 72), none, none] [] N Post) : ∀ d i N, d = n - i → i ≤ n → (∀ z, z ≠ 94 → N z = M z) → (∀ k, k < i → N 94 k = psum (pmF M 25 90 k) 5) → G mX7_prepare 2 [some (.ref 72), some (.int (nI i)), none] [] N Post := by
  intro d
  induction d using Nat.strongRecOn with
  | ind d ih =>
    intro i N hd hi h0 j1
    have hn : N 72 27 = nI n := by rw [h0 72 (by decide)]; exact hn0
    refine blk 7 [(.iload_n 1, 0, 0, 0), (.aload_n 0, 0, 0, 0), (.getfield 121, 7, 27, 0)] [] (by decide +kernel) rfl (pc' := 7) (ls' := [some (.ref 72), some (.int (nI i)), none]) (st' := [.int (N 72 27), .int (nI i)]) (M' := N) rfl ⟨trivial, trivial, rfl, trivial⟩ ?_
    refine g_icmp_ge (off := 75) (tgt := 82) (by decide +kernel) (by decide) (fun c1 => ?_) (fun c1 => ?_)
    · have nc1 : n ≤ i := (nI_leI (by omega) (by omega)).mp (by simpa only [hn, nI_add, pk_mul, nI_s1, n0_lit] using c1)
      have e : i = n := by omega
      subst e
      refine G.sub (ls' := [some (.ref 72), none, none]) ?_ ⟨rfl, trivial⟩
      exact hp N h0 j1
    · have nc1 : i < n := by
        have z : ¬ nI n ≤ nI i := by simpa only [hn, nI_add, pk_mul, nI_s1, n0_lit] using c1
        rw [nI_leI (by omega) (by omega)] at z
        omega
      refine blk 7 [(.aload_n 0, 0, 0, 0), (.getfield 77, 7, 34, 0), (.iload_n 1, 0, 0, 0), (.iconst 0, 0, 0, (nI 0)), (.iastore, 0, 0, 0), (.iconst 0, 0, 0, (nI 0)), (.istore_n 2, 0, 0, 0)] [i] (by decide +kernel) rfl (pc' := 19) (ls' := [some (.ref 72), some (.int (nI i)), some (.int (nI 0))]) (st' := []) (M' := stm N 94 i (nI 0)) rfl ⟨trivial, rfl, trivial, trivial, ⟨rfl, (by show _ < 60; omega), by decide⟩, trivial, trivial, trivial⟩ ?_
      refine l_prepP2 (M := M) (by omega) (fun A a0 a1 => ?_) _ 0 _ rfl (by omega) (fun z hz => by rw [stm_ne hz]; exact h0 z hz) (fun k hk => by rw [stm_off (by omega)]; exact j1 k hk) (by rw [stm_self]; exact nI_0)
      refine blk 7 [(.iinc 1 1, 0, 0, (nI 1)), (.goto (-77), 2, 0, 0)] [] (by decide +kernel) rfl (pc' := 2) (ls' := [some (.ref 72), some (.int (nI i + nI 1)), none]) (st' := []) (M' := A) rfl ⟨trivial, trivial, trivial⟩ ?_
      refine G.sub (ls' := [some (.ref 72), some (.int (nI (i + 1))), none]) ?_ ⟨rfl, congrArg (fun z => some (Value.int z)) (nI_add _ _), trivial⟩
      exact ih (d - 1) (by omega) (i + 1) A (by omega) (by omega) a0 a1
theorem l_prepQ2 {M : Mem} {i : Nat} {Post : Option Value → Mem → Prop} (hi : i < 60) (hp : ∀ N, (∀ z, z ≠ 95 → N z = M z) → (∀ k, k < i + 1 → N 95 k = psum (pmF M 26 91 k) 5) → G mX7_prepare 158 [some (.ref 72), some (.int (nI i)), none] [] N Post) : ∀ d w N, d = 5 - w → w ≤ 5 → (∀ z, z ≠ 95 → N z = M z) → (∀ k, k < i → N 95 k = psum (pmF M 26 91 k) 5) → N 95 i = psum (pmF M 26 91 i) w → G mX7_prepare 101 [some (.ref 72), some (.int (nI i)), some (.int (nI w))] [] N Post := by
  intro d
  induction d using Nat.strongRecOn with
  | ind d ih =>
    intro w N hd hw h0 j1 j2
    refine blk 7 [(.iload_n 2, 0, 0, 0), (.iconst 5, 0, 0, (nI 5))] [] (by decide +kernel) rfl (pc' := 103) (ls' := [some (.ref 72), some (.int (nI i)), some (.int (nI w))]) (st' := [.int (nI 5), .int (nI w)]) (M' := N) rfl ⟨trivial, trivial, trivial⟩ ?_
    refine g_icmp_ge (off := 55) (tgt := 158) (by decide +kernel) (by decide) (fun c1 => ?_) (fun c1 => ?_)
    · have nc1 : 5 ≤ w := (nI_leI (by omega) (by omega)).mp (by simpa only [nI_add, pk_mul, nI_s1, n0_lit] using c1)
      have e : w = 5 := by omega
      subst e
      refine G.sub (ls' := [some (.ref 72), some (.int (nI i)), none]) ?_ ⟨rfl, rfl, trivial⟩
      refine hp N h0 (fun k hk => ?_)
      by_cases e : k = i
      · subst e; exact j2
      · exact j1 k (by omega)
    · have nc1 : w < 5 := by
        have z : ¬ nI 5 ≤ nI w := by simpa only [nI_add, pk_mul, nI_s1, n0_lit] using c1
        rw [nI_leI (by omega) (by omega)] at z
        omega
      refine blk 7 [(.aload_n 0, 0, 0, 0), (.getfield 80, 7, 35, 0), (.iload_n 1, 0, 0, 0), (.dup2, 0, 0, 0), (.iaload, 0, 0, 0), (.aload_n 0, 0, 0, 0), (.aload_n 0, 0, 0, 0), (.getfield 124, 7, 26, 0), (.iload_n 2, 0, 0, 0)] [i] (by decide +kernel) rfl (pc' := 119) (ls' := [some (.ref 72), some (.int (nI i)), some (.int (nI w))]) (st' := [.int (nI w), .int (N 72 26), .ref 72, .int (N 95 i), .int (nI i), .ref 95]) (M' := N) rfl ⟨trivial, rfl, trivial, ⟨rfl, rfl⟩, ⟨rfl, (by show _ < 60; omega)⟩, trivial, trivial, rfl, trivial, trivial⟩ ?_
      refine g_callV (s_isIn N (N 72 26) w) ok_X7_prepare_X7_isIn (by decide +kernel) rfl (c := 7) rfl (by decide) rfl (Nat.le_of_ble_eq_true rfl) (fun r M' h => ?_) rfl
      obtain ⟨hr, hM⟩ := h
      rw [hr, hM]
      show G _ 122 [some (.ref 72), some (.int (nI i)), some (.int (nI w))] [.int (hb (N 72 26) w), .int (N 95 i), .int (nI i), .ref 95] N _
      refine g_if_eq (off := 27) (tgt := 149) (by decide +kernel) (by decide) (fun c2 => ?_) (fun c2 => ?_)
      · refine blk 7 [(.iconst 0, 0, 0, (nI 0)), (.iadd, 0, 0, 0), (.iastore, 0, 0, 0), (.iinc 2 1, 0, 0, (nI 1)), (.goto (-54), 101, 0, 0)] [i] (by decide +kernel) rfl (pc' := 101) (ls' := [some (.ref 72), some (.int (nI i)), some (.int (nI w + nI 1))]) (st' := []) (M' := stm N 95 i ((N 95 i) + (nI 0))) rfl ⟨trivial, trivial, ⟨rfl, (by show _ < 60; omega), by decide⟩, trivial, trivial, trivial⟩ ?_
        refine G.sub (ls' := [some (.ref 72), some (.int (nI i)), some (.int (nI (w + 1)))]) ?_ ⟨rfl, rfl, congrArg (fun z => some (Value.int z)) (by simp only [nI_add, nI_s1]), trivial⟩
        refine ih (d - 1) (by omega) (w + 1) _ (by omega) (by omega) (fun z hz => by rw [stm_ne hz]; exact h0 z hz) (fun k hk => by rw [stm_off (by omega)]; exact j1 k hk) ?_
        rw [stm_self]
        rw [show N 95 i = _ from j2, psum, show pmF M 26 91 i w = 0 by simp only [pmF]; rw [if_neg (fun z => z.1 (by rw [← h0 72 (by decide)]; exact c2))]]; rfl
      · refine blk 7 [(.aload_n 0, 0, 0, 0), (.getfield 68, 7, 30, 0), (.bipush 60, 0, 0, (nI 60)), (.iload_n 2, 0, 0, 0), (.imul, 0, 0, 0), (.iload_n 1, 0, 0, 0), (.iadd, 0, 0, 0), (.iaload, 0, 0, 0), (.iconst (-1), 0, 0, (-1))] [60 * w + i] (by decide +kernel) rfl (pc' := 137) (ls' := [some (.ref 72), some (.int (nI i)), some (.int (nI w))]) (st' := [.int (-1), .int (N 91 (60 * w + i)), .int (N 95 i), .int (nI i), .ref 95]) (M' := N) rfl ⟨trivial, rfl, trivial, trivial, trivial, trivial, trivial, ⟨(by simp only [nI_add, pk_mul, nI_s1, Nat.reduceAdd, Nat.reduceMul]), (by show _ < 300; omega)⟩, trivial, trivial⟩ ?_
        refine g_icmp_eq (off := 12) (tgt := 149) (by decide +kernel) (by decide) (fun c3 => ?_) (fun c3 => ?_)
        · refine blk 7 [(.iconst 0, 0, 0, (nI 0)), (.iadd, 0, 0, 0), (.iastore, 0, 0, 0), (.iinc 2 1, 0, 0, (nI 1)), (.goto (-54), 101, 0, 0)] [i] (by decide +kernel) rfl (pc' := 101) (ls' := [some (.ref 72), some (.int (nI i)), some (.int (nI w + nI 1))]) (st' := []) (M' := stm N 95 i ((N 95 i) + (nI 0))) rfl ⟨trivial, trivial, ⟨rfl, (by show _ < 60; omega), by decide⟩, trivial, trivial, trivial⟩ ?_
          refine G.sub (ls' := [some (.ref 72), some (.int (nI i)), some (.int (nI (w + 1)))]) ?_ ⟨rfl, rfl, congrArg (fun z => some (Value.int z)) (by simp only [nI_add, nI_s1]), trivial⟩
          refine ih (d - 1) (by omega) (w + 1) _ (by omega) (by omega) (fun z hz => by rw [stm_ne hz]; exact h0 z hz) (fun k hk => by rw [stm_off (by omega)]; exact j1 k hk) ?_
          rw [stm_self]
          rw [show N 95 i = _ from j2, psum, show pmF M 26 91 i w = 0 by simp only [pmF]; rw [if_neg (fun z => z.2 (by rw [← h0 91 (by decide)]; exact c3))]]; rfl
        · refine blk 7 [(.aload_n 0, 0, 0, 0), (.getfield 86, 7, 37, 0), (.iload_n 2, 0, 0, 0), (.iaload, 0, 0, 0), (.goto (4), 150, 0, 0), (.iadd, 0, 0, 0), (.iastore, 0, 0, 0), (.iinc 2 1, 0, 0, (nI 1)), (.goto (-54), 101, 0, 0)] [w, i] (by decide +kernel) rfl (pc' := 101) (ls' := [some (.ref 72), some (.int (nI i)), some (.int (nI w + nI 1))]) (st' := []) (M' := stm N 95 i ((N 95 i) + (N 39 w))) rfl ⟨trivial, rfl, trivial, ⟨rfl, (by show _ < 5; omega)⟩, trivial, trivial, ⟨rfl, (by show _ < 60; omega), by decide⟩, trivial, trivial, trivial⟩ ?_
          refine G.sub (ls' := [some (.ref 72), some (.int (nI i)), some (.int (nI (w + 1)))]) ?_ ⟨rfl, rfl, congrArg (fun z => some (Value.int z)) (by simp only [nI_add, nI_s1]), trivial⟩
          refine ih (d - 1) (by omega) (w + 1) _ (by omega) (by omega) (fun z hz => by rw [stm_ne hz]; exact h0 z hz) (fun k hk => by rw [stm_off (by omega)]; exact j1 k hk) ?_
          rw [stm_self]
          rw [show N 95 i = _ from j2, psum]; congr 1; simp only [pmF]; rw [if_pos ⟨by rw [← h0 72 (by decide)]; exact c2, by rw [← h0 91 (by decide)]; exact c3⟩, ← h0 39 (by decide)]
theorem l_prepQ {M : Mem} {n : Nat} {Post : Option Value → Mem → Prop} (hn6 : n ≤ 60) (hn0 : M 72 28 = nI n) (hp : ∀ N, (∀ z, z ≠ 95 → N z = M z) → (∀ k, k < n → N 95 k = psum (pmF M 26 91 k) 5) → G mX7_prepare 164 [some (.ref 72), none, none] [] N Post) : ∀ d i N, d = n - i → i ≤ n → (∀ z, z ≠ 95 → N z = M z) → (∀ k, k < i → N 95 k = psum (pmF M 26 91 k) 5) → G mX7_prepare 84 [some (.ref 72), some (.int (nI i)), none] [] N Post := by
  intro d
  induction d using Nat.strongRecOn with
  | ind d ih =>
    intro i N hd hi h0 j1
    have hn : N 72 28 = nI n := by rw [h0 72 (by decide)]; exact hn0
    refine blk 7 [(.iload_n 1, 0, 0, 0), (.aload_n 0, 0, 0, 0), (.getfield 127, 7, 28, 0)] [] (by decide +kernel) rfl (pc' := 89) (ls' := [some (.ref 72), some (.int (nI i)), none]) (st' := [.int (N 72 28), .int (nI i)]) (M' := N) rfl ⟨trivial, trivial, rfl, trivial⟩ ?_
    refine g_icmp_ge (off := 75) (tgt := 164) (by decide +kernel) (by decide) (fun c1 => ?_) (fun c1 => ?_)
    · have nc1 : n ≤ i := (nI_leI (by omega) (by omega)).mp (by simpa only [hn, nI_add, pk_mul, nI_s1, n0_lit] using c1)
      have e : i = n := by omega
      subst e
      refine G.sub (ls' := [some (.ref 72), none, none]) ?_ ⟨rfl, trivial⟩
      exact hp N h0 j1
    · have nc1 : i < n := by
        have z : ¬ nI n ≤ nI i := by simpa only [hn, nI_add, pk_mul, nI_s1, n0_lit] using c1
        rw [nI_leI (by omega) (by omega)] at z
        omega
      refine blk 7 [(.aload_n 0, 0, 0, 0), (.getfield 80, 7, 35, 0), (.iload_n 1, 0, 0, 0), (.iconst 0, 0, 0, (nI 0)), (.iastore, 0, 0, 0), (.iconst 0, 0, 0, (nI 0)), (.istore_n 2, 0, 0, 0)] [i] (by decide +kernel) rfl (pc' := 101) (ls' := [some (.ref 72), some (.int (nI i)), some (.int (nI 0))]) (st' := []) (M' := stm N 95 i (nI 0)) rfl ⟨trivial, rfl, trivial, trivial, ⟨rfl, (by show _ < 60; omega), by decide⟩, trivial, trivial, trivial⟩ ?_
      refine l_prepQ2 (M := M) (by omega) (fun A a0 a1 => ?_) _ 0 _ rfl (by omega) (fun z hz => by rw [stm_ne hz]; exact h0 z hz) (fun k hk => by rw [stm_off (by omega)]; exact j1 k hk) (by rw [stm_self]; exact nI_0)
      refine blk 7 [(.iinc 1 1, 0, 0, (nI 1)), (.goto (-77), 84, 0, 0)] [] (by decide +kernel) rfl (pc' := 84) (ls' := [some (.ref 72), some (.int (nI i + nI 1)), none]) (st' := []) (M' := A) rfl ⟨trivial, trivial, trivial⟩ ?_
      refine G.sub (ls' := [some (.ref 72), some (.int (nI (i + 1))), none]) ?_ ⟨rfl, congrArg (fun z => some (Value.int z)) (nI_add _ _), trivial⟩
      exact ih (d - 1) (by omega) (i + 1) A (by omega) (by omega) a0 a1
theorem btF_congr {M N : Mem} {i j : Nat} (h : ∀ z, z ≠ 93 → N z = M z) : btF N i j = btF M i j := by
  unfold btF baF; rw [h 72 (by decide), h 90 (by decide), h 91 (by decide), h 77 (by decide), h 39 (by decide)]
theorem l_prepB2 {M : Mem} {p q i : Nat} {Post : Option Value → Mem → Prop} (hp6 : p ≤ 60) (hq6 : q ≤ 60) (hc : mcell M p q) (hq : M 72 28 = nI q) (hi : i < p) (hp : ∀ N, (∀ z, z ≠ 93 → N z = M z) → (∀ a b, a < i + 1 → b < q → N 93 (60 * a + b) = btF M a b) → G mX7_prepare 207 [some (.ref 72), some (.int (nI i)), none] [] N Post) : ∀ d j N, d = q - j → j ≤ q → (∀ z, z ≠ 93 → N z = M z) → (∀ a b, a < i → b < q → N 93 (60 * a + b) = btF M a b) → (∀ b, b < j → N 93 (60 * i + b) = btF M i b) → G mX7_prepare 176 [some (.ref 72), some (.int (nI i)), some (.int (nI j))] [] N Post := by
  intro d
  induction d using Nat.strongRecOn with
  | ind d ih =>
    intro j N hd hj h0 j1 j2
    have hqN : N 72 28 = nI q := by rw [h0 72 (by decide)]; exact hq
    have hcN : mcell N p q := by unfold mcell; rw [h0 72 (by decide), h0 90 (by decide), h0 91 (by decide)]; exact hc
    refine blk 7 [(.iload_n 2, 0, 0, 0), (.aload_n 0, 0, 0, 0), (.getfield 127, 7, 28, 0)] [] (by decide +kernel) rfl (pc' := 181) (ls' := [some (.ref 72), some (.int (nI i)), some (.int (nI j))]) (st' := [.int (N 72 28), .int (nI j)]) (M' := N) rfl ⟨trivial, trivial, rfl, trivial⟩ ?_
    refine g_icmp_ge (off := 26) (tgt := 207) (by decide +kernel) (by decide) (fun c1 => ?_) (fun c1 => ?_)
    · have nc1 : q ≤ j := (nI_leI (by omega) (by omega)).mp (by simpa only [hqN, nI_add, pk_mul, nI_s1, n0_lit] using c1)
      have e : j = q := by omega
      subst e
      refine G.sub (ls' := [some (.ref 72), some (.int (nI i)), none]) ?_ ⟨rfl, rfl, trivial⟩
      refine hp N h0 (fun a b ha hb => ?_)
      by_cases e : a = i
      · subst e; exact j2 b hb
      · exact j1 a b (by omega) hb
    · have nc1 : j < q := by
        have z : ¬ nI q ≤ nI j := by simpa only [hqN, nI_add, pk_mul, nI_s1, n0_lit] using c1
        rw [nI_leI (by omega) (by omega)] at z
        omega
      refine blk 7 [(.aload_n 0, 0, 0, 0), (.getfield 74, 7, 33, 0), (.bipush 60, 0, 0, (nI 60)), (.iload_n 1, 0, 0, 0), (.imul, 0, 0, 0), (.iload_n 2, 0, 0, 0), (.iadd, 0, 0, 0), (.aload_n 0, 0, 0, 0), (.iload_n 1, 0, 0, 0), (.iload_n 2, 0, 0, 0)] [] (by decide +kernel) rfl (pc' := 197) (ls' := [some (.ref 72), some (.int (nI i)), some (.int (nI j))]) (st' := [.int (nI j), .int (nI i), .ref 72, .int (((nI 60) * (nI i)) + (nI j)), .ref 93]) (M' := N) rfl ⟨trivial, rfl, trivial, trivial, trivial, trivial, trivial, trivial, trivial, trivial, trivial⟩ ?_
      refine g_callV (s_both N (p := p) (q := q) (i := i) (j := j) hp6 hq6 hcN hi (by omega)) ok_X7_prepare_X7_bothAt (by decide +kernel) rfl (c := 7) rfl (by decide) rfl (Nat.le_of_ble_eq_true rfl) (fun r M' h => ?_) rfl
      obtain ⟨hr, hM⟩ := h
      rw [hr, hM]
      show G _ 200 [some (.ref 72), some (.int (nI i)), some (.int (nI j))] [.int (btF N i j), .int (((nI 60) * (nI i)) + (nI j)), .ref 93] N _
      refine blk 7 [(.iastore, 0, 0, 0), (.iinc 2 1, 0, 0, (nI 1)), (.goto (-28), 176, 0, 0)] [60 * i + j] (by decide +kernel) rfl (pc' := 176) (ls' := [some (.ref 72), some (.int (nI i)), some (.int (nI j + nI 1))]) (st' := []) (M' := stm N 93 (60 * i + j) (btF N i j)) rfl ⟨⟨(by simp only [hqN, nI_add, pk_mul, nI_s1, Nat.reduceAdd, Nat.reduceMul]), (by show _ < 3600; omega), by decide⟩, trivial, trivial, trivial⟩ ?_
      refine G.sub (ls' := [some (.ref 72), some (.int (nI i)), some (.int (nI (j + 1)))]) ?_ ⟨rfl, rfl, congrArg (fun z => some (Value.int z)) (by simp only [nI_add, nI_s1]), trivial⟩
      refine ih (d - 1) (by omega) (j + 1) _ (by omega) (by omega) (fun z hz => by rw [stm_ne hz]; exact h0 z hz) (fun a b ha hb => ?_) (fun b hb => ?_)
      · rw [stm_off (by omega)]; exact j1 a b ha hb
      · by_cases e : b = j
        · subst e; rw [stm_self]; exact btF_congr (fun z hz => h0 z hz)
        · rw [stm_off (by omega)]; exact j2 b (by omega)
theorem l_prepB {M : Mem} {p q : Nat} {Post : Option Value → Mem → Prop} (hp6 : p ≤ 60) (hq6 : q ≤ 60) (hc : mcell M p q) (hp1 : M 72 27 = nI p) (hq : M 72 28 = nI q) (hp : ∀ N, (∀ z, z ≠ 93 → N z = M z) → (∀ a b, a < p → b < q → N 93 (60 * a + b) = btF M a b) → Post none N) : ∀ d i N, d = p - i → i ≤ p → (∀ z, z ≠ 93 → N z = M z) → (∀ a b, a < i → b < q → N 93 (60 * a + b) = btF M a b) → G mX7_prepare 166 [some (.ref 72), some (.int (nI i)), none] [] N Post := by
  intro d
  induction d using Nat.strongRecOn with
  | ind d ih =>
    intro i N hd hi h0 j1
    have hpN : N 72 27 = nI p := by rw [h0 72 (by decide)]; exact hp1
    refine blk 7 [(.iload_n 1, 0, 0, 0), (.aload_n 0, 0, 0, 0), (.getfield 121, 7, 27, 0)] [] (by decide +kernel) rfl (pc' := 171) (ls' := [some (.ref 72), some (.int (nI i)), none]) (st' := [.int (N 72 27), .int (nI i)]) (M' := N) rfl ⟨trivial, trivial, rfl, trivial⟩ ?_
    refine g_icmp_ge (off := 42) (tgt := 213) (by decide +kernel) (by decide) (fun c1 => ?_) (fun c1 => ?_)
    · have nc1 : p ≤ i := (nI_leI (by omega) (by omega)).mp (by simpa only [hpN, nI_add, pk_mul, nI_s1, n0_lit] using c1)
      have e : i = p := by omega
      subst e
      exact g_return (by decide +kernel) rfl (hp N h0 j1)
    · have nc1 : i < p := by
        have z : ¬ nI p ≤ nI i := by simpa only [hpN, nI_add, pk_mul, nI_s1, n0_lit] using c1
        rw [nI_leI (by omega) (by omega)] at z
        omega
      refine blk 7 [(.iconst 0, 0, 0, (nI 0)), (.istore_n 2, 0, 0, 0)] [] (by decide +kernel) rfl (pc' := 176) (ls' := [some (.ref 72), some (.int (nI i)), some (.int (nI 0))]) (st' := []) (M' := N) rfl ⟨trivial, trivial, trivial⟩ ?_
      refine l_prepB2 (M := M) hp6 hq6 hc hq (by omega) (fun A a0 a1 => ?_) _ 0 N rfl (by omega) h0 j1 (fun b hb => absurd hb (by omega))
      refine blk 7 [(.iinc 1 1, 0, 0, (nI 1)), (.goto (-44), 166, 0, 0)] [] (by decide +kernel) rfl (pc' := 166) (ls' := [some (.ref 72), some (.int (nI i + nI 1)), none]) (st' := []) (M' := A) rfl ⟨trivial, trivial, trivial⟩ ?_
      refine G.sub (ls' := [some (.ref 72), some (.int (nI (i + 1))), none]) ?_ ⟨rfl, congrArg (fun z => some (Value.int z)) (nI_add _ _), trivial⟩
      exact ih (d - 1) (by omega) (i + 1) A (by omega) (by omega) a0 a1
def prepP (M : Mem) (p q : Nat) : Option Value → Mem → Prop := fun r N => r = none ∧ (∀ i, i < p → N 94 i = psum (pmF M 25 90 i) 5) ∧ (∀ j, j < q → N 95 j = psum (pmF M 26 91 j) 5) ∧ (∀ a b, a < p → b < q → N 93 (60 * a + b) = btF M a b) ∧ ∀ z, (z < 93 ∨ 95 < z) → N z = M z
theorem s_prepare (M : Mem) {p q : Nat} (hp6 : p ≤ 60) (hq6 : q ≤ 60) (hc : mcell M p q) (hp : M 72 27 = nI p) (hq : M 72 28 = nI q) : Spec mX7_prepare [.ref 72] M (prepP M p q) := by
  refine Spec.of (by decide) (by simp [Value.category]) (Nat.le_of_ble_eq_true rfl) ?_
  refine blk 7 [(.iconst 0, 0, 0, (nI 0)), (.istore_n 1, 0, 0, 0)] [] (by decide +kernel) rfl (pc' := 2) (ls' := [some (.ref 72), some (.int (nI 0)), none]) (st' := []) (M' := M) rfl ⟨trivial, trivial, trivial⟩ ?_
  refine l_prepP (M := M) (n := p) hp6 hp (fun A a0 a1 => ?_) _ 0 M rfl (by omega) (fun _ _ => rfl) (fun k h => absurd h (by omega))
  refine blk 7 [(.iconst 0, 0, 0, (nI 0)), (.istore_n 1, 0, 0, 0)] [] (by decide +kernel) rfl (pc' := 84) (ls' := [some (.ref 72), some (.int (nI 0)), none]) (st' := []) (M' := A) rfl ⟨trivial, trivial, trivial⟩ ?_
  refine l_prepQ (M := A) (n := q) hq6 (by rw [a0 72 (by decide)]; exact hq) (fun B b0 b1 => ?_) _ 0 A rfl (by omega) (fun _ _ => rfl) (fun k h => absurd h (by omega))
  have eB : ∀ z, z ≠ 94 → z ≠ 95 → B z = M z := fun z h1 h2 => by rw [b0 z h2, a0 z h1]
  refine blk 7 [(.iconst 0, 0, 0, (nI 0)), (.istore_n 1, 0, 0, 0)] [] (by decide +kernel) rfl (pc' := 166) (ls' := [some (.ref 72), some (.int (nI 0)), none]) (st' := []) (M' := B) rfl ⟨trivial, trivial, trivial⟩ ?_
  refine l_prepB (M := B) (p := p) (q := q) hp6 hq6 (by unfold mcell; rw [eB 72 (by decide) (by decide), eB 90 (by decide) (by decide), eB 91 (by decide) (by decide)]; exact hc) (by rw [eB 72 (by decide) (by decide)]; exact hp) (by rw [eB 72 (by decide) (by decide)]; exact hq) (fun C c0 c1 => ⟨rfl, fun i hi => ?_, fun j hj => ?_, fun a b ha hb => ?_, fun z hz => ?_⟩) _ 0 B rfl (by omega) (fun _ _ => rfl) (fun a b h => absurd h (by omega))
  · rw [c0 94 (by decide), b0 94 (by decide)]; exact a1 i hi
  · rw [c0 95 (by decide), b1 j hj]; exact psum_congr (fun w _ => by unfold pmF; rw [a0 72 (by decide), a0 91 (by decide), a0 39 (by decide)])
  · rw [c1 a b ha hb]; unfold btF baF; rw [eB 72 (by decide) (by decide), eB 90 (by decide) (by decide), eB 91 (by decide) (by decide), eB 77 (by decide) (by decide), eB 39 (by decide) (by decide)]
  · rw [c0 z (by omega)]; exact eB z (by omega) (by omega)
