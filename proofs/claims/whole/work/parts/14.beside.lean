/-! Row.scoreBeside -/
/-- a cell: a gap or a letter -/
def okc (x : Int32) : Prop := x = -1 ∨ ∃ a, a < 4 ∧ x = nI a
def cd (x : Int32) : Nat := x.toNatClampNeg
theorem okc_cd {x : Int32} (h : okc x) (hn : ¬ x = -1) : x = nI (cd x) ∧ cd x < 4 := by
  rcases h with h | ⟨a, ha, rfl⟩
  · exact absurd h hn
  · unfold cd; rw [nI_clamp (by omega)]; exact ⟨rfl, ha⟩
/-- what a pair of rows is worth column by column: the sum, and the last kind of column -/
def sbS (sc : Nat → Int32) (op ex : Int32) (x y : Int32) (q : Int32 × Int32) : Int32 × Int32 :=
  if x = -1 ∧ y = -1 then q
  else if x = -1 then (q.1 - (ex + if nI 2 = q.2 then nI 0 else op), nI 2)
  else if y = -1 then (q.1 - (ex + if nI 1 = q.2 then nI 0 else op), nI 1)
  else (q.1 + sc (cd x * 4 + cd y), nI 0)
def sbF (sc : Nat → Int32) (op ex : Int32) (x y : Nat → Int32) : Nat → Int32 × Int32
  | 0 => (nI 0, nI 0)
  | k + 1 => sbS sc op ex (x k) (y k) (sbF sc op ex x y k)
theorem ixx {x y : Int32} {a b : Nat} (h1 : x = nI a) (h2 : y = nI b) : x * nI 4 + y = nI (a * 4 + b) := by rw [h1, h2, pk_mul, nI_add]
theorem l_beside {M : Mem} {t u w : Nat} {Post : Option Value → Mem → Prop} (hk : kd t = 2) (hk2 : kd u = 2) (hw : M t 1 = nI w) (hl : w ≤ al (t + 5)) (hl2 : w ≤ al (u + 5)) (hx : ∀ k, k < w → okc (M (t + 5) k)) (hy : ∀ k, k < w → okc (M (u + 5) k)) (hp : Post (some (.int (sbF (M 3) (M 2 1) (M 2 2) (M (t + 5)) (M (u + 5)) w).1)) M) : ∀ d j, d = w - j → j ≤ w → G mX2_scoreBeside 8 [some (.ref t), some (.ref u), some (.ref 2), some (.int (sbF (M 3) (M 2 1) (M 2 2) (M (t + 5)) (M (u + 5)) j).1), some (.int (sbF (M 3) (M 2 1) (M 2 2) (M (t + 5)) (M (u + 5)) j).2), some (.int (nI j)), none, none, none] [] M Post := by
  have hb := @al_big (t + 5)
  intro d
  induction d using Nat.strongRecOn with
  | ind d ih =>
    intro j hd hj
    refine blk 2 [(.iload 5, 0, 0, 0), (.aload_n 0, 0, 0, 0), (.getfield 15, 2, 1, 0)] [] (by decide +kernel) rfl (pc' := 14) (ls' := [some (.ref t), some (.ref u), some (.ref 2), some (.int ((sbF (M 3) (M 2 1) (M 2 2) (M (t + 5)) (M (u + 5)) j).1)), some (.int ((sbF (M 3) (M 2 1) (M 2 2) (M (t + 5)) (M (u + 5)) j).2)), some (.int (nI j)), none, none, none]) (st' := [.int (M t 1), .int (nI j)]) (M' := M) rfl ⟨trivial, trivial, (by assumption), trivial⟩ ?_
    refine g_icmp_ge (off := 115) (tgt := 129) (by decide +kernel) (by decide) (fun c1 => ?_) (fun c1 => ?_)
    · have nc1 : w ≤ j := (nI_leI (by omega) (by omega)).mp (by simpa only [hw, nI_add, pk_mul, nI_s1, n0_lit] using c1)
      refine blk 2 [(.iload_n 3, 0, 0, 0)] [] (by decide +kernel) rfl (pc' := 130) (ls' := [some (.ref t), some (.ref u), some (.ref 2), some (.int ((sbF (M 3) (M 2 1) (M 2 2) (M (t + 5)) (M (u + 5)) j).1)), some (.int ((sbF (M 3) (M 2 1) (M 2 2) (M (t + 5)) (M (u + 5)) j).2)), some (.int (nI j)), none, none, none]) (st' := [.int ((sbF (M 3) (M 2 1) (M 2 2) (M (t + 5)) (M (u + 5)) j).1)]) (M' := M) rfl ⟨trivial, trivial⟩ ?_
      have e : j = w := by omega
      subst e
      exact g_ireturn (by decide +kernel) rfl rfl hp
    · have nc1 : j < w := by
        have z : ¬ nI w ≤ nI j := by simpa only [hw, nI_add, pk_mul, nI_s1, n0_lit] using c1
        rw [nI_leI (by omega) (by omega)] at z
        omega
      refine blk 2 [(.aload_n 0, 0, 0, 0), (.getfield 9, 2, 0, 0), (.iload 5, 0, 0, 0), (.iaload, 0, 0, 0), (.istore 6, 0, 0, 0), (.aload_n 1, 0, 0, 0), (.getfield 9, 2, 0, 0), (.iload 5, 0, 0, 0), (.iaload, 0, 0, 0), (.istore 7, 0, 0, 0), (.iload 6, 0, 0, 0), (.iconst (-1), 0, 0, (-1))] [j, j] (by decide +kernel) rfl (pc' := 38) (ls' := [some (.ref t), some (.ref u), some (.ref 2), some (.int ((sbF (M 3) (M 2 1) (M 2 2) (M (t + 5)) (M (u + 5)) j).1)), some (.int ((sbF (M 3) (M 2 1) (M 2 2) (M (t + 5)) (M (u + 5)) j).2)), some (.int (nI j)), some (.int (M (t + 5) j)), some (.int (M (u + 5) j)), none]) (st' := [.int (-1), .int (M (t + 5) j)]) (M' := M) rfl ⟨trivial, (by assumption), trivial, ⟨rfl, (by omega)⟩, trivial, trivial, (by assumption), trivial, ⟨rfl, (by omega)⟩, trivial, trivial, trivial, trivial⟩ ?_
      refine g_icmp_ne (off := 12) (tgt := 50) (by decide +kernel) (by decide) (fun c2 => ?_) (fun c2 => ?_)
      · refine blk 2 [(.iload 6, 0, 0, 0), (.iconst (-1), 0, 0, (-1))] [] (by decide +kernel) rfl (pc' := 53) (ls' := [some (.ref t), some (.ref u), some (.ref 2), some (.int ((sbF (M 3) (M 2 1) (M 2 2) (M (t + 5)) (M (u + 5)) j).1)), some (.int ((sbF (M 3) (M 2 1) (M 2 2) (M (t + 5)) (M (u + 5)) j).2)), some (.int (nI j)), some (.int (M (t + 5) j)), some (.int (M (u + 5) j)), none]) (st' := [.int (-1), .int (M (t + 5) j)]) (M' := M) rfl ⟨trivial, trivial, trivial⟩ ?_
        refine g_icmp_ne (off := 7) (tgt := 60) (by decide +kernel) (by decide) (fun c3 => ?_) (fun c3 => ?_)
        · refine blk 2 [(.iload 7, 0, 0, 0), (.iconst (-1), 0, 0, (-1))] [] (by decide +kernel) rfl (pc' := 63) (ls' := [some (.ref t), some (.ref u), some (.ref 2), some (.int ((sbF (M 3) (M 2 1) (M 2 2) (M (t + 5)) (M (u + 5)) j).1)), some (.int ((sbF (M 3) (M 2 1) (M 2 2) (M (t + 5)) (M (u + 5)) j).2)), some (.int (nI j)), some (.int (M (t + 5) j)), some (.int (M (u + 5) j)), none]) (st' := [.int (-1), .int (M (u + 5) j)]) (M' := M) rfl ⟨trivial, trivial, trivial⟩ ?_
          refine g_icmp_ne (off := 7) (tgt := 70) (by decide +kernel) (by decide) (fun c4 => ?_) (fun c4 => ?_)
          · refine blk 2 [(.iconst 0, 0, 0, (nI 0)), (.istore 8, 0, 0, 0), (.iload 8, 0, 0, 0)] [] (by decide +kernel) rfl (pc' := 75) (ls' := [some (.ref t), some (.ref u), some (.ref 2), some (.int ((sbF (M 3) (M 2 1) (M 2 2) (M (t + 5)) (M (u + 5)) j).1)), some (.int ((sbF (M 3) (M 2 1) (M 2 2) (M (t + 5)) (M (u + 5)) j).2)), some (.int (nI j)), some (.int (M (t + 5) j)), some (.int (M (u + 5) j)), some (.int (nI 0))]) (st' := [.int (nI 0)]) (M' := M) rfl ⟨trivial, trivial, trivial, trivial⟩ ?_
            refine g_if_ne (off := 21) (tgt := 96) (by decide +kernel) (by decide) (fun c5 => ?_) (fun c5 => ?_)
            · exact absurd (by decide +kernel) c5
            · have ex := okc_cd (hx j (by omega)) c2
              have ey := okc_cd (hy j (by omega)) c4
              refine blk 2 [(.iload_n 3, 0, 0, 0), (.aload_n 2, 0, 0, 0), (.getfield 34, 0, 0, 0), (.iload 6, 0, 0, 0), (.iconst 4, 0, 0, (nI 4)), (.imul, 0, 0, 0), (.iload 7, 0, 0, 0), (.iadd, 0, 0, 0), (.iaload, 0, 0, 0), (.iadd, 0, 0, 0), (.istore_n 3, 0, 0, 0), (.goto (26), 119, 0, 0), (.iload 8, 0, 0, 0), (.istore 4, 0, 0, 0), (.iinc 5 1, 0, 0, (nI 1)), (.goto (-118), 8, 0, 0)] [cd (M (t + 5) j) * 4 + cd (M (u + 5) j)] (by decide +kernel) rfl (pc' := 8) (ls' := [some (.ref t), some (.ref u), some (.ref 2), some (.int (((sbF (M 3) (M 2 1) (M 2 2) (M (t + 5)) (M (u + 5)) j).1) + (M 3 (cd (M (t + 5) j) * 4 + cd (M (u + 5) j))))), some (.int (nI 0)), some (.int (nI j + nI 1)), some (.int (M (t + 5) j)), some (.int (M (u + 5) j)), some (.int (nI 0))]) (st' := []) (M' := M) rfl ⟨trivial, trivial, rfl, trivial, trivial, trivial, trivial, trivial, ⟨(ixx ex.1 ey.1), (by show _ < 16; omega)⟩, trivial, trivial, trivial, trivial, trivial, trivial, trivial, trivial⟩ ?_
              have e : sbF (M 3) (M 2 1) (M 2 2) (M (t + 5)) (M (u + 5)) (j + 1) = (((sbF (M 3) (M 2 1) (M 2 2) (M (t + 5)) (M (u + 5)) j).1) + (M 3 (cd (M (t + 5) j) * 4 + cd (M (u + 5) j))), nI 0) := by
                try clear ex ey
                rw [sbF, sbS]; simp_all
              refine G.sub (ls' := [some (.ref t), some (.ref u), some (.ref 2), some (.int ((sbF (M 3) (M 2 1) (M 2 2) (M (t + 5)) (M (u + 5)) (j + 1)).1)), some (.int ((sbF (M 3) (M 2 1) (M 2 2) (M (t + 5)) (M (u + 5)) (j + 1)).2)), some (.int (nI (j + 1))), none, none, none]) ?_ ⟨rfl, rfl, rfl, congrArg (fun z => some (Value.int z)) (by rw [e]), congrArg (fun z => some (Value.int z)) (by rw [e]), congrArg (fun z => some (Value.int z)) (by simp only [nI_add, nI_s1]), trivial⟩
              exact ih (d - 1) (by omega) (j + 1) (by omega) (by omega)
          · refine blk 2 [(.iconst 1, 0, 0, (nI 1)), (.goto (4), 71, 0, 0), (.istore 8, 0, 0, 0), (.iload 8, 0, 0, 0)] [] (by decide +kernel) rfl (pc' := 75) (ls' := [some (.ref t), some (.ref u), some (.ref 2), some (.int ((sbF (M 3) (M 2 1) (M 2 2) (M (t + 5)) (M (u + 5)) j).1)), some (.int ((sbF (M 3) (M 2 1) (M 2 2) (M (t + 5)) (M (u + 5)) j).2)), some (.int (nI j)), some (.int (M (t + 5) j)), some (.int (M (u + 5) j)), some (.int (nI 1))]) (st' := [.int (nI 1)]) (M' := M) rfl ⟨trivial, trivial, trivial, trivial, trivial⟩ ?_
            refine g_if_ne (off := 21) (tgt := 96) (by decide +kernel) (by decide) (fun c6 => ?_) (fun c6 => ?_)
            · refine blk 2 [(.iload_n 3, 0, 0, 0), (.aload_n 2, 0, 0, 0), (.getfield 39, 0, 2, 0), (.iload 8, 0, 0, 0), (.iload 4, 0, 0, 0)] [] (by decide +kernel) rfl (pc' := 105) (ls' := [some (.ref t), some (.ref u), some (.ref 2), some (.int ((sbF (M 3) (M 2 1) (M 2 2) (M (t + 5)) (M (u + 5)) j).1)), some (.int ((sbF (M 3) (M 2 1) (M 2 2) (M (t + 5)) (M (u + 5)) j).2)), some (.int (nI j)), some (.int (M (t + 5) j)), some (.int (M (u + 5) j)), some (.int (nI 1))]) (st' := [.int ((sbF (M 3) (M 2 1) (M 2 2) (M (t + 5)) (M (u + 5)) j).2), .int (nI 1), .int (M 2 2), .int ((sbF (M 3) (M 2 1) (M 2 2) (M (t + 5)) (M (u + 5)) j).1)]) (M' := M) rfl ⟨trivial, trivial, rfl, trivial, trivial, trivial⟩ ?_
              refine g_icmp_ne (off := 7) (tgt := 112) (by decide +kernel) (by decide) (fun c7 => ?_) (fun c7 => ?_)
              · refine blk 2 [(.aload_n 2, 0, 0, 0), (.getfield 42, 0, 1, 0), (.iadd, 0, 0, 0), (.isub, 0, 0, 0), (.istore_n 3, 0, 0, 0), (.iload 8, 0, 0, 0), (.istore 4, 0, 0, 0), (.iinc 5 1, 0, 0, (nI 1)), (.goto (-118), 8, 0, 0)] [] (by decide +kernel) rfl (pc' := 8) (ls' := [some (.ref t), some (.ref u), some (.ref 2), some (.int (((sbF (M 3) (M 2 1) (M 2 2) (M (t + 5)) (M (u + 5)) j).1) - ((M 2 2) + (M 2 1)))), some (.int (nI 1)), some (.int (nI j + nI 1)), some (.int (M (t + 5) j)), some (.int (M (u + 5) j)), some (.int (nI 1))]) (st' := []) (M' := M) rfl ⟨trivial, rfl, trivial, trivial, trivial, trivial, trivial, trivial, trivial, trivial⟩ ?_
                have e : sbF (M 3) (M 2 1) (M 2 2) (M (t + 5)) (M (u + 5)) (j + 1) = (((sbF (M 3) (M 2 1) (M 2 2) (M (t + 5)) (M (u + 5)) j).1) - ((M 2 2) + (M 2 1)), nI 1) := by
                  try clear ex ey
                  rw [sbF, sbS]; simp_all
                refine G.sub (ls' := [some (.ref t), some (.ref u), some (.ref 2), some (.int ((sbF (M 3) (M 2 1) (M 2 2) (M (t + 5)) (M (u + 5)) (j + 1)).1)), some (.int ((sbF (M 3) (M 2 1) (M 2 2) (M (t + 5)) (M (u + 5)) (j + 1)).2)), some (.int (nI (j + 1))), none, none, none]) ?_ ⟨rfl, rfl, rfl, congrArg (fun z => some (Value.int z)) (by rw [e]), congrArg (fun z => some (Value.int z)) (by rw [e]), congrArg (fun z => some (Value.int z)) (by simp only [nI_add, nI_s1]), trivial⟩
                exact ih (d - 1) (by omega) (j + 1) (by omega) (by omega)
              · refine blk 2 [(.iconst 0, 0, 0, (nI 0)), (.goto (7), 116, 0, 0), (.iadd, 0, 0, 0), (.isub, 0, 0, 0), (.istore_n 3, 0, 0, 0), (.iload 8, 0, 0, 0), (.istore 4, 0, 0, 0), (.iinc 5 1, 0, 0, (nI 1)), (.goto (-118), 8, 0, 0)] [] (by decide +kernel) rfl (pc' := 8) (ls' := [some (.ref t), some (.ref u), some (.ref 2), some (.int (((sbF (M 3) (M 2 1) (M 2 2) (M (t + 5)) (M (u + 5)) j).1) - ((M 2 2) + (nI 0)))), some (.int (nI 1)), some (.int (nI j + nI 1)), some (.int (M (t + 5) j)), some (.int (M (u + 5) j)), some (.int (nI 1))]) (st' := []) (M' := M) rfl ⟨trivial, trivial, trivial, trivial, trivial, trivial, trivial, trivial, trivial, trivial⟩ ?_
                have e : sbF (M 3) (M 2 1) (M 2 2) (M (t + 5)) (M (u + 5)) (j + 1) = (((sbF (M 3) (M 2 1) (M 2 2) (M (t + 5)) (M (u + 5)) j).1) - ((M 2 2) + (nI 0)), nI 1) := by
                  try clear ex ey
                  rw [sbF, sbS]; simp_all
                refine G.sub (ls' := [some (.ref t), some (.ref u), some (.ref 2), some (.int ((sbF (M 3) (M 2 1) (M 2 2) (M (t + 5)) (M (u + 5)) (j + 1)).1)), some (.int ((sbF (M 3) (M 2 1) (M 2 2) (M (t + 5)) (M (u + 5)) (j + 1)).2)), some (.int (nI (j + 1))), none, none, none]) ?_ ⟨rfl, rfl, rfl, congrArg (fun z => some (Value.int z)) (by rw [e]), congrArg (fun z => some (Value.int z)) (by rw [e]), congrArg (fun z => some (Value.int z)) (by simp only [nI_add, nI_s1]), trivial⟩
                exact ih (d - 1) (by omega) (j + 1) (by omega) (by omega)
            · exact absurd c6 (by decide +kernel)
        · exact absurd c3 c2
      · refine blk 2 [(.iload 7, 0, 0, 0), (.iconst (-1), 0, 0, (-1))] [] (by decide +kernel) rfl (pc' := 44) (ls' := [some (.ref t), some (.ref u), some (.ref 2), some (.int ((sbF (M 3) (M 2 1) (M 2 2) (M (t + 5)) (M (u + 5)) j).1)), some (.int ((sbF (M 3) (M 2 1) (M 2 2) (M (t + 5)) (M (u + 5)) j).2)), some (.int (nI j)), some (.int (M (t + 5) j)), some (.int (M (u + 5) j)), none]) (st' := [.int (-1), .int (M (u + 5) j)]) (M' := M) rfl ⟨trivial, trivial, trivial⟩ ?_
        refine g_icmp_ne (off := 6) (tgt := 50) (by decide +kernel) (by decide) (fun c8 => ?_) (fun c8 => ?_)
        · refine blk 2 [(.iload 6, 0, 0, 0), (.iconst (-1), 0, 0, (-1))] [] (by decide +kernel) rfl (pc' := 53) (ls' := [some (.ref t), some (.ref u), some (.ref 2), some (.int ((sbF (M 3) (M 2 1) (M 2 2) (M (t + 5)) (M (u + 5)) j).1)), some (.int ((sbF (M 3) (M 2 1) (M 2 2) (M (t + 5)) (M (u + 5)) j).2)), some (.int (nI j)), some (.int (M (t + 5) j)), some (.int (M (u + 5) j)), none]) (st' := [.int (-1), .int (M (t + 5) j)]) (M' := M) rfl ⟨trivial, trivial, trivial⟩ ?_
          refine g_icmp_ne (off := 7) (tgt := 60) (by decide +kernel) (by decide) (fun c9 => ?_) (fun c9 => ?_)
          · exact absurd c2 c9
          · refine blk 2 [(.iconst 2, 0, 0, (nI 2)), (.goto (14), 71, 0, 0), (.istore 8, 0, 0, 0), (.iload 8, 0, 0, 0)] [] (by decide +kernel) rfl (pc' := 75) (ls' := [some (.ref t), some (.ref u), some (.ref 2), some (.int ((sbF (M 3) (M 2 1) (M 2 2) (M (t + 5)) (M (u + 5)) j).1)), some (.int ((sbF (M 3) (M 2 1) (M 2 2) (M (t + 5)) (M (u + 5)) j).2)), some (.int (nI j)), some (.int (M (t + 5) j)), some (.int (M (u + 5) j)), some (.int (nI 2))]) (st' := [.int (nI 2)]) (M' := M) rfl ⟨trivial, trivial, trivial, trivial, trivial⟩ ?_
            refine g_if_ne (off := 21) (tgt := 96) (by decide +kernel) (by decide) (fun c10 => ?_) (fun c10 => ?_)
            · refine blk 2 [(.iload_n 3, 0, 0, 0), (.aload_n 2, 0, 0, 0), (.getfield 39, 0, 2, 0), (.iload 8, 0, 0, 0), (.iload 4, 0, 0, 0)] [] (by decide +kernel) rfl (pc' := 105) (ls' := [some (.ref t), some (.ref u), some (.ref 2), some (.int ((sbF (M 3) (M 2 1) (M 2 2) (M (t + 5)) (M (u + 5)) j).1)), some (.int ((sbF (M 3) (M 2 1) (M 2 2) (M (t + 5)) (M (u + 5)) j).2)), some (.int (nI j)), some (.int (M (t + 5) j)), some (.int (M (u + 5) j)), some (.int (nI 2))]) (st' := [.int ((sbF (M 3) (M 2 1) (M 2 2) (M (t + 5)) (M (u + 5)) j).2), .int (nI 2), .int (M 2 2), .int ((sbF (M 3) (M 2 1) (M 2 2) (M (t + 5)) (M (u + 5)) j).1)]) (M' := M) rfl ⟨trivial, trivial, rfl, trivial, trivial, trivial⟩ ?_
              refine g_icmp_ne (off := 7) (tgt := 112) (by decide +kernel) (by decide) (fun c11 => ?_) (fun c11 => ?_)
              · refine blk 2 [(.aload_n 2, 0, 0, 0), (.getfield 42, 0, 1, 0), (.iadd, 0, 0, 0), (.isub, 0, 0, 0), (.istore_n 3, 0, 0, 0), (.iload 8, 0, 0, 0), (.istore 4, 0, 0, 0), (.iinc 5 1, 0, 0, (nI 1)), (.goto (-118), 8, 0, 0)] [] (by decide +kernel) rfl (pc' := 8) (ls' := [some (.ref t), some (.ref u), some (.ref 2), some (.int (((sbF (M 3) (M 2 1) (M 2 2) (M (t + 5)) (M (u + 5)) j).1) - ((M 2 2) + (M 2 1)))), some (.int (nI 2)), some (.int (nI j + nI 1)), some (.int (M (t + 5) j)), some (.int (M (u + 5) j)), some (.int (nI 2))]) (st' := []) (M' := M) rfl ⟨trivial, rfl, trivial, trivial, trivial, trivial, trivial, trivial, trivial, trivial⟩ ?_
                have e : sbF (M 3) (M 2 1) (M 2 2) (M (t + 5)) (M (u + 5)) (j + 1) = (((sbF (M 3) (M 2 1) (M 2 2) (M (t + 5)) (M (u + 5)) j).1) - ((M 2 2) + (M 2 1)), nI 2) := by
                  try clear ex ey
                  rw [sbF, sbS]; simp_all
                refine G.sub (ls' := [some (.ref t), some (.ref u), some (.ref 2), some (.int ((sbF (M 3) (M 2 1) (M 2 2) (M (t + 5)) (M (u + 5)) (j + 1)).1)), some (.int ((sbF (M 3) (M 2 1) (M 2 2) (M (t + 5)) (M (u + 5)) (j + 1)).2)), some (.int (nI (j + 1))), none, none, none]) ?_ ⟨rfl, rfl, rfl, congrArg (fun z => some (Value.int z)) (by rw [e]), congrArg (fun z => some (Value.int z)) (by rw [e]), congrArg (fun z => some (Value.int z)) (by simp only [nI_add, nI_s1]), trivial⟩
                exact ih (d - 1) (by omega) (j + 1) (by omega) (by omega)
              · refine blk 2 [(.iconst 0, 0, 0, (nI 0)), (.goto (7), 116, 0, 0), (.iadd, 0, 0, 0), (.isub, 0, 0, 0), (.istore_n 3, 0, 0, 0), (.iload 8, 0, 0, 0), (.istore 4, 0, 0, 0), (.iinc 5 1, 0, 0, (nI 1)), (.goto (-118), 8, 0, 0)] [] (by decide +kernel) rfl (pc' := 8) (ls' := [some (.ref t), some (.ref u), some (.ref 2), some (.int (((sbF (M 3) (M 2 1) (M 2 2) (M (t + 5)) (M (u + 5)) j).1) - ((M 2 2) + (nI 0)))), some (.int (nI 2)), some (.int (nI j + nI 1)), some (.int (M (t + 5) j)), some (.int (M (u + 5) j)), some (.int (nI 2))]) (st' := []) (M' := M) rfl ⟨trivial, trivial, trivial, trivial, trivial, trivial, trivial, trivial, trivial, trivial⟩ ?_
                have e : sbF (M 3) (M 2 1) (M 2 2) (M (t + 5)) (M (u + 5)) (j + 1) = (((sbF (M 3) (M 2 1) (M 2 2) (M (t + 5)) (M (u + 5)) j).1) - ((M 2 2) + (nI 0)), nI 2) := by
                  try clear ex ey
                  rw [sbF, sbS]; simp_all
                refine G.sub (ls' := [some (.ref t), some (.ref u), some (.ref 2), some (.int ((sbF (M 3) (M 2 1) (M 2 2) (M (t + 5)) (M (u + 5)) (j + 1)).1)), some (.int ((sbF (M 3) (M 2 1) (M 2 2) (M (t + 5)) (M (u + 5)) (j + 1)).2)), some (.int (nI (j + 1))), none, none, none]) ?_ ⟨rfl, rfl, rfl, congrArg (fun z => some (Value.int z)) (by rw [e]), congrArg (fun z => some (Value.int z)) (by rw [e]), congrArg (fun z => some (Value.int z)) (by simp only [nI_add, nI_s1]), trivial⟩
                exact ih (d - 1) (by omega) (j + 1) (by omega) (by omega)
            · exact absurd c10 (by decide +kernel)
        · refine blk 2 [(.goto (76), 123, 0, 0), (.iinc 5 1, 0, 0, (nI 1)), (.goto (-118), 8, 0, 0)] [] (by decide +kernel) rfl (pc' := 8) (ls' := [some (.ref t), some (.ref u), some (.ref 2), some (.int ((sbF (M 3) (M 2 1) (M 2 2) (M (t + 5)) (M (u + 5)) j).1)), some (.int ((sbF (M 3) (M 2 1) (M 2 2) (M (t + 5)) (M (u + 5)) j).2)), some (.int (nI j + nI 1)), some (.int (M (t + 5) j)), some (.int (M (u + 5) j)), none]) (st' := []) (M' := M) rfl ⟨trivial, trivial, trivial, trivial⟩ ?_
          have e : sbF (M 3) (M 2 1) (M 2 2) (M (t + 5)) (M (u + 5)) (j + 1) = ((sbF (M 3) (M 2 1) (M 2 2) (M (t + 5)) (M (u + 5)) j).1, (sbF (M 3) (M 2 1) (M 2 2) (M (t + 5)) (M (u + 5)) j).2) := by
            try clear ex ey
            rw [sbF, sbS]; simp_all
          refine G.sub (ls' := [some (.ref t), some (.ref u), some (.ref 2), some (.int ((sbF (M 3) (M 2 1) (M 2 2) (M (t + 5)) (M (u + 5)) (j + 1)).1)), some (.int ((sbF (M 3) (M 2 1) (M 2 2) (M (t + 5)) (M (u + 5)) (j + 1)).2)), some (.int (nI (j + 1))), none, none, none]) ?_ ⟨rfl, rfl, rfl, congrArg (fun z => some (Value.int z)) (by rw [e]), congrArg (fun z => some (Value.int z)) (by rw [e]), congrArg (fun z => some (Value.int z)) (by simp only [nI_add, nI_s1]), trivial⟩
          exact ih (d - 1) (by omega) (j + 1) (by omega) (by omega)
theorem s_beside (M : Mem) {t u w : Nat} (hk : kd t = 2) (hk2 : kd u = 2) (hw : M t 1 = nI w) (hl : w ≤ al (t + 5)) (hl2 : w ≤ al (u + 5)) (hx : ∀ k, k < w → okc (M (t + 5) k)) (hy : ∀ k, k < w → okc (M (u + 5) k)) : Spec mX2_scoreBeside [.ref t, .ref u, .ref 2] M (Ret (sbF (M 3) (M 2 1) (M 2 2) (M (t + 5)) (M (u + 5)) w).1 M) := by
  refine Spec.of (by decide) (by simp [Value.category]) (Nat.le_of_ble_eq_true rfl) ?_
  refine blk 2 [(.iconst 0, 0, 0, (nI 0)), (.istore_n 3, 0, 0, 0), (.iconst 0, 0, 0, (nI 0)), (.istore 4, 0, 0, 0), (.iconst 0, 0, 0, (nI 0)), (.istore 5, 0, 0, 0)] [] (by decide +kernel) rfl (pc' := 8) (ls' := [some (.ref t), some (.ref u), some (.ref 2), some (.int (nI 0)), some (.int (nI 0)), some (.int (nI 0)), none, none, none]) (st' := []) (M' := M) rfl ⟨trivial, trivial, trivial, trivial, trivial, trivial, trivial⟩ ?_
  exact l_beside hk hk2 hw hl hl2 hx hy ⟨rfl, rfl⟩ _ 0 rfl (by omega)
