/-! the reference: walk, merge (2) -/
theorem l_mw2 {M : Mem} {i j l s n : Nat} {pA qA : Int32} {g : Nat → Nat → Int32} {Post : Option Value → Mem → Prop} (hs : s ≤ 2) (hn6 : n < 60) (h2i : s ≠ 2 → i < 60) (h1j : s ≠ 1 → j < 60) (hp : ∀ N, keepW M N → N 72 31 = nI n → (∀ a c, a < n + 1 → c < 5 → N 92 (60 * c + a) = if a = n then mcv M i j s c else g a c) → G mX7_walk 205 [some (.ref 72), some (.int pA), some (.int qA), some (.int (nI i)), some (.int (nI j)), some (.int (nI l)), some (.int (nI s)), none, none, none] [] N Post) : ∀ d w N, d = 5 - w → w ≤ 5 → keepW M N → N 72 31 = nI n → (∀ a c, a < n → c < 5 → N 92 (60 * c + a) = g a c) → (∀ c, c < w → N 92 (60 * c + n) = mcv M i j s c) → G mX7_walk 84 [some (.ref 72), some (.int pA), some (.int qA), some (.int (nI i)), some (.int (nI j)), some (.int (nI l)), some (.int (nI s)), some (.int (nI w)), none, none] [] N Post := by
  intro d
  induction d using Nat.strongRecOn with
  | ind d ih =>
    intro w N hd hw hk hn j1 j2
    refine blk 7 [(.iload 7, 0, 0, 0), (.iconst 5, 0, 0, (nI 5))] [] (by decide +kernel) rfl (pc' := 87) (ls' := [some (.ref 72), some (.int pA), some (.int qA), some (.int (nI i)), some (.int (nI j)), some (.int (nI l)), some (.int (nI s)), some (.int (nI w)), none, none]) (st' := [.int (nI 5), .int (nI w)]) (M' := N) rfl ⟨trivial, trivial, trivial⟩ ?_
    refine g_icmp_ge (off := 118) (tgt := 205) (by decide +kernel) (by decide) (fun c1 => ?_) (fun c1 => ?_)
    · have nc1 : 5 ≤ w := (nI_leI (by omega) (by omega)).mp (by simpa only [hn, nI_add, pk_mul, nI_s1, n0_lit] using c1)
      have e : w = 5 := by omega
      subst e
      refine G.sub (ls' := [some (.ref 72), some (.int pA), some (.int qA), some (.int (nI i)), some (.int (nI j)), some (.int (nI l)), some (.int (nI s)), none, none, none]) ?_ ⟨rfl, rfl, rfl, rfl, rfl, rfl, rfl, trivial⟩
      refine hp N hk hn (fun a c ha hc => ?_)
      by_cases e : a = n
      · subst e; rw [if_pos rfl]; exact j2 c hc
      · rw [if_neg e]; exact j1 a c (by omega) hc
    · have nc1 : w < 5 := by
        have z : ¬ nI 5 ≤ nI w := by simpa only [hn, nI_add, pk_mul, nI_s1, n0_lit] using c1
        rw [nI_leI (by omega) (by omega)] at z
        omega
      refine blk 7 [(.aload_n 0, 0, 0, 0), (.aload_n 0, 0, 0, 0), (.getfield 118, 7, 25, 0), (.iload 7, 0, 0, 0)] [] (by decide +kernel) rfl (pc' := 97) (ls' := [some (.ref 72), some (.int pA), some (.int qA), some (.int (nI i)), some (.int (nI j)), some (.int (nI l)), some (.int (nI s)), some (.int (nI w)), none, none]) (st' := [.int (nI w), .int (N 72 25), .ref 72]) (M' := N) rfl ⟨trivial, trivial, rfl, trivial, trivial⟩ ?_
      refine g_callV (s_isIn N (N 72 25) w) ok_X7_walk_X7_isIn (by decide +kernel) rfl (c := 7) rfl (by decide) rfl (Nat.le_of_ble_eq_true rfl) (fun r M' h => ?_) rfl
      obtain ⟨hr, hM⟩ := h
      rw [hr, hM]
      show G _ 100 [some (.ref 72), some (.int pA), some (.int qA), some (.int (nI i)), some (.int (nI j)), some (.int (nI l)), some (.int (nI s)), some (.int (nI w)), none, none] [.int (hb (N 72 25) w)] N _
      refine g_if_eq (off := 13) (tgt := 113) (by decide +kernel) (by decide) (fun c2 => ?_) (fun c2 => ?_)
      · refine blk 7 [(.iconst 0, 0, 0, (nI 0)), (.istore 8, 0, 0, 0), (.aload_n 0, 0, 0, 0), (.aload_n 0, 0, 0, 0), (.getfield 124, 7, 26, 0), (.iload 7, 0, 0, 0)] [] (by decide +kernel) rfl (pc' := 123) (ls' := [some (.ref 72), some (.int pA), some (.int qA), some (.int (nI i)), some (.int (nI j)), some (.int (nI l)), some (.int (nI s)), some (.int (nI w)), some (.int (nI 0)), none]) (st' := [.int (nI w), .int (N 72 26), .ref 72]) (M' := N) rfl ⟨trivial, trivial, trivial, trivial, rfl, trivial, trivial⟩ ?_
        refine g_callV (s_isIn N (N 72 26) w) ok_X7_walk_X7_isIn (by decide +kernel) rfl (c := 7) rfl (by decide) rfl (Nat.le_of_ble_eq_true rfl) (fun r M' h => ?_) rfl
        obtain ⟨hr, hM⟩ := h
        rw [hr, hM]
        show G _ 126 [some (.ref 72), some (.int pA), some (.int qA), some (.int (nI i)), some (.int (nI j)), some (.int (nI l)), some (.int (nI s)), some (.int (nI w)), some (.int (nI 0)), none] [.int (hb (N 72 26) w)] N _
        refine g_if_eq (off := 13) (tgt := 139) (by decide +kernel) (by decide) (fun c3 => ?_) (fun c3 => ?_)
        · refine blk 7 [(.iconst 0, 0, 0, (nI 0)), (.istore 9, 0, 0, 0), (.aload_n 0, 0, 0, 0), (.getfield 71, 7, 32, 0), (.bipush 60, 0, 0, (nI 60)), (.iload 7, 0, 0, 0), (.imul, 0, 0, 0), (.aload_n 0, 0, 0, 0), (.getfield 161, 7, 31, 0), (.iadd, 0, 0, 0), (.iload 8, 0, 0, 0)] [] (by decide +kernel) rfl (pc' := 158) (ls' := [some (.ref 72), some (.int pA), some (.int qA), some (.int (nI i)), some (.int (nI j)), some (.int (nI l)), some (.int (nI s)), some (.int (nI w)), some (.int (nI 0)), some (.int (nI 0))]) (st' := [.int (nI 0), .int (((nI 60) * (nI w)) + (N 72 31)), .ref 92]) (M' := N) rfl ⟨trivial, trivial, trivial, rfl, trivial, trivial, trivial, trivial, rfl, trivial, trivial, trivial⟩ ?_
          refine g_if_eq (off := 18) (tgt := 176) (by decide +kernel) (by decide) (fun c4 => ?_) (fun c4 => ?_)
          · refine blk 7 [(.iload 9, 0, 0, 0)] [] (by decide +kernel) rfl (pc' := 178) (ls' := [some (.ref 72), some (.int pA), some (.int qA), some (.int (nI i)), some (.int (nI j)), some (.int (nI l)), some (.int (nI s)), some (.int (nI w)), some (.int (nI 0)), some (.int (nI 0))]) (st' := [.int (nI 0), .int (((nI 60) * (nI w)) + (N 72 31)), .ref 92]) (M' := N) rfl ⟨trivial, trivial⟩ ?_
            refine g_if_eq (off := 19) (tgt := 197) (by decide +kernel) (by decide) (fun c5 => ?_) (fun c5 => ?_)
            · refine blk 7 [(.iconst (-1), 0, 0, (-1)), (.iastore, 0, 0, 0), (.iinc 7 1, 0, 0, (nI 1)), (.goto (-118), 84, 0, 0)] [60 * w + n] (by decide +kernel) rfl (pc' := 84) (ls' := [some (.ref 72), some (.int pA), some (.int qA), some (.int (nI i)), some (.int (nI j)), some (.int (nI l)), some (.int (nI s)), some (.int (nI w + nI 1)), some (.int (nI 0)), some (.int (nI 0))]) (st' := []) (M' := stm N 92 (60 * w + n) (-1)) rfl ⟨trivial, ⟨(by simp only [hn, nI_add, pk_mul, nI_s1, Nat.reduceAdd, Nat.reduceMul]), (by show _ < 300; omega), by decide⟩, trivial, trivial, trivial⟩ ?_
              have ev : -1 = mcv M i j s w := by rw [mcv, if_neg (fun z => z.1 (by rw [← hk.2 25 (by decide)]; exact c2)), if_neg (fun z => z.1 (by rw [← hk.2 26 (by decide)]; exact c3))]
              refine G.sub (ls' := [some (.ref 72), some (.int pA), some (.int qA), some (.int (nI i)), some (.int (nI j)), some (.int (nI l)), some (.int (nI s)), some (.int (nI (w + 1))), none, none]) ?_ ⟨rfl, rfl, rfl, rfl, rfl, rfl, rfl, congrArg (fun z => some (Value.int z)) (by simp only [nI_add, nI_s1]), trivial⟩
              refine ih (d - 1) (by omega) (w + 1) _ (by omega) (by omega) ⟨fun z h1 h2 => by rw [stm_ne h2]; exact hk.1 z h1 h2, fun f hf => by rw [stm_ne (by decide)]; exact hk.2 f hf⟩ (by rw [stm_ne (by decide)]; exact hn) (fun a c ha hc => by rw [stm_off (by omega)]; exact j1 a c ha hc) (fun c hc => ?_)
              by_cases e : c = w
              · subst e; rw [stm_self]; exact ev
              · rw [stm_off (by omega)]; exact j2 c (by omega)
            · exact absurd (by decide +kernel) c5
          · exact absurd (by decide +kernel) c4
        · refine blk 7 [(.iload 6, 0, 0, 0), (.iconst 1, 0, 0, (nI 1))] [] (by decide +kernel) rfl (pc' := 132) (ls' := [some (.ref 72), some (.int pA), some (.int qA), some (.int (nI i)), some (.int (nI j)), some (.int (nI l)), some (.int (nI s)), some (.int (nI w)), some (.int (nI 0)), none]) (st' := [.int (nI 1), .int (nI s)]) (M' := N) rfl ⟨trivial, trivial, trivial⟩ ?_
          refine g_icmp_eq (off := 7) (tgt := 139) (by decide +kernel) (by decide) (fun c6 => ?_) (fun c6 => ?_)
          · have nc6 : s = 1 := (nI_eq (by omega) (by omega)).mp (by simpa only [hn, nI_add, pk_mul, nI_s1, n0_lit] using c6)
            refine blk 7 [(.iconst 0, 0, 0, (nI 0)), (.istore 9, 0, 0, 0), (.aload_n 0, 0, 0, 0), (.getfield 71, 7, 32, 0), (.bipush 60, 0, 0, (nI 60)), (.iload 7, 0, 0, 0), (.imul, 0, 0, 0), (.aload_n 0, 0, 0, 0), (.getfield 161, 7, 31, 0), (.iadd, 0, 0, 0), (.iload 8, 0, 0, 0)] [] (by decide +kernel) rfl (pc' := 158) (ls' := [some (.ref 72), some (.int pA), some (.int qA), some (.int (nI i)), some (.int (nI j)), some (.int (nI l)), some (.int (nI s)), some (.int (nI w)), some (.int (nI 0)), some (.int (nI 0))]) (st' := [.int (nI 0), .int (((nI 60) * (nI w)) + (N 72 31)), .ref 92]) (M' := N) rfl ⟨trivial, trivial, trivial, rfl, trivial, trivial, trivial, trivial, rfl, trivial, trivial, trivial⟩ ?_
            refine g_if_eq (off := 18) (tgt := 176) (by decide +kernel) (by decide) (fun c7 => ?_) (fun c7 => ?_)
            · refine blk 7 [(.iload 9, 0, 0, 0)] [] (by decide +kernel) rfl (pc' := 178) (ls' := [some (.ref 72), some (.int pA), some (.int qA), some (.int (nI i)), some (.int (nI j)), some (.int (nI l)), some (.int (nI s)), some (.int (nI w)), some (.int (nI 0)), some (.int (nI 0))]) (st' := [.int (nI 0), .int (((nI 60) * (nI w)) + (N 72 31)), .ref 92]) (M' := N) rfl ⟨trivial, trivial⟩ ?_
              refine g_if_eq (off := 19) (tgt := 197) (by decide +kernel) (by decide) (fun c8 => ?_) (fun c8 => ?_)
              · refine blk 7 [(.iconst (-1), 0, 0, (-1)), (.iastore, 0, 0, 0), (.iinc 7 1, 0, 0, (nI 1)), (.goto (-118), 84, 0, 0)] [60 * w + n] (by decide +kernel) rfl (pc' := 84) (ls' := [some (.ref 72), some (.int pA), some (.int qA), some (.int (nI i)), some (.int (nI j)), some (.int (nI l)), some (.int (nI s)), some (.int (nI w + nI 1)), some (.int (nI 0)), some (.int (nI 0))]) (st' := []) (M' := stm N 92 (60 * w + n) (-1)) rfl ⟨trivial, ⟨(by simp only [hn, nI_add, pk_mul, nI_s1, Nat.reduceAdd, Nat.reduceMul]), (by show _ < 300; omega), by decide⟩, trivial, trivial, trivial⟩ ?_
                have ev : -1 = mcv M i j s w := by rw [mcv, if_neg (fun z => z.1 (by rw [← hk.2 25 (by decide)]; exact c2)), if_neg (fun z => z.2 nc6)]
                refine G.sub (ls' := [some (.ref 72), some (.int pA), some (.int qA), some (.int (nI i)), some (.int (nI j)), some (.int (nI l)), some (.int (nI s)), some (.int (nI (w + 1))), none, none]) ?_ ⟨rfl, rfl, rfl, rfl, rfl, rfl, rfl, congrArg (fun z => some (Value.int z)) (by simp only [nI_add, nI_s1]), trivial⟩
                refine ih (d - 1) (by omega) (w + 1) _ (by omega) (by omega) ⟨fun z h1 h2 => by rw [stm_ne h2]; exact hk.1 z h1 h2, fun f hf => by rw [stm_ne (by decide)]; exact hk.2 f hf⟩ (by rw [stm_ne (by decide)]; exact hn) (fun a c ha hc => by rw [stm_off (by omega)]; exact j1 a c ha hc) (fun c hc => ?_)
                by_cases e : c = w
                · subst e; rw [stm_self]; exact ev
                · rw [stm_off (by omega)]; exact j2 c (by omega)
              · exact absurd (by decide +kernel) c8
            · exact absurd (by decide +kernel) c7
          · have nc6 : s ≠ 1 := by
              have z : ¬ nI s = nI 1 := by simpa only [hn, nI_add, pk_mul, nI_s1, n0_lit] using c6
              rw [nI_eq (by omega) (by omega)] at z
              omega
            refine blk 7 [(.iconst 1, 0, 0, (nI 1)), (.goto (4), 140, 0, 0), (.istore 9, 0, 0, 0), (.aload_n 0, 0, 0, 0), (.getfield 71, 7, 32, 0), (.bipush 60, 0, 0, (nI 60)), (.iload 7, 0, 0, 0), (.imul, 0, 0, 0), (.aload_n 0, 0, 0, 0), (.getfield 161, 7, 31, 0), (.iadd, 0, 0, 0), (.iload 8, 0, 0, 0)] [] (by decide +kernel) rfl (pc' := 158) (ls' := [some (.ref 72), some (.int pA), some (.int qA), some (.int (nI i)), some (.int (nI j)), some (.int (nI l)), some (.int (nI s)), some (.int (nI w)), some (.int (nI 0)), some (.int (nI 1))]) (st' := [.int (nI 0), .int (((nI 60) * (nI w)) + (N 72 31)), .ref 92]) (M' := N) rfl ⟨trivial, trivial, trivial, trivial, rfl, trivial, trivial, trivial, trivial, rfl, trivial, trivial, trivial⟩ ?_
            refine g_if_eq (off := 18) (tgt := 176) (by decide +kernel) (by decide) (fun c9 => ?_) (fun c9 => ?_)
            · refine blk 7 [(.iload 9, 0, 0, 0)] [] (by decide +kernel) rfl (pc' := 178) (ls' := [some (.ref 72), some (.int pA), some (.int qA), some (.int (nI i)), some (.int (nI j)), some (.int (nI l)), some (.int (nI s)), some (.int (nI w)), some (.int (nI 0)), some (.int (nI 1))]) (st' := [.int (nI 1), .int (((nI 60) * (nI w)) + (N 72 31)), .ref 92]) (M' := N) rfl ⟨trivial, trivial⟩ ?_
              refine g_if_eq (off := 19) (tgt := 197) (by decide +kernel) (by decide) (fun c10 => ?_) (fun c10 => ?_)
              · exact absurd c10 (by decide +kernel)
              · refine blk 7 [(.aload_n 0, 0, 0, 0), (.getfield 68, 7, 30, 0), (.bipush 60, 0, 0, (nI 60)), (.iload 7, 0, 0, 0), (.imul, 0, 0, 0), (.iload 4, 0, 0, 0), (.iadd, 0, 0, 0), (.iaload, 0, 0, 0), (.goto (4), 198, 0, 0), (.iastore, 0, 0, 0), (.iinc 7 1, 0, 0, (nI 1)), (.goto (-118), 84, 0, 0)] [60 * w + j, 60 * w + n] (by decide +kernel) rfl (pc' := 84) (ls' := [some (.ref 72), some (.int pA), some (.int qA), some (.int (nI i)), some (.int (nI j)), some (.int (nI l)), some (.int (nI s)), some (.int (nI w + nI 1)), some (.int (nI 0)), some (.int (nI 1))]) (st' := []) (M' := stm N 92 (60 * w + n) (N 91 (60 * w + j))) rfl ⟨trivial, rfl, trivial, trivial, trivial, trivial, trivial, ⟨(by simp only [hn, nI_add, pk_mul, nI_s1, Nat.reduceAdd, Nat.reduceMul]), (by show _ < 300; have := h1j (by assumption); omega)⟩, trivial, ⟨(by simp only [hn, nI_add, pk_mul, nI_s1, Nat.reduceAdd, Nat.reduceMul]), (by show _ < 300; omega), by decide⟩, trivial, trivial, trivial⟩ ?_
                have ev : N 91 (60 * w + j) = mcv M i j s w := by rw [mcv, if_neg (fun z => z.1 (by rw [← hk.2 25 (by decide)]; exact c2)), if_pos ⟨(by rw [← hk.2 26 (by decide)]; exact c3), nc6⟩, ← hk.1 91 (by decide) (by decide)]
                refine G.sub (ls' := [some (.ref 72), some (.int pA), some (.int qA), some (.int (nI i)), some (.int (nI j)), some (.int (nI l)), some (.int (nI s)), some (.int (nI (w + 1))), none, none]) ?_ ⟨rfl, rfl, rfl, rfl, rfl, rfl, rfl, congrArg (fun z => some (Value.int z)) (by simp only [nI_add, nI_s1]), trivial⟩
                refine ih (d - 1) (by omega) (w + 1) _ (by omega) (by omega) ⟨fun z h1 h2 => by rw [stm_ne h2]; exact hk.1 z h1 h2, fun f hf => by rw [stm_ne (by decide)]; exact hk.2 f hf⟩ (by rw [stm_ne (by decide)]; exact hn) (fun a c ha hc => by rw [stm_off (by omega)]; exact j1 a c ha hc) (fun c hc => ?_)
                by_cases e : c = w
                · subst e; rw [stm_self]; exact ev
                · rw [stm_off (by omega)]; exact j2 c (by omega)
            · exact absurd (by decide +kernel) c9
      · refine blk 7 [(.iload 6, 0, 0, 0), (.iconst 2, 0, 0, (nI 2))] [] (by decide +kernel) rfl (pc' := 106) (ls' := [some (.ref 72), some (.int pA), some (.int qA), some (.int (nI i)), some (.int (nI j)), some (.int (nI l)), some (.int (nI s)), some (.int (nI w)), none, none]) (st' := [.int (nI 2), .int (nI s)]) (M' := N) rfl ⟨trivial, trivial, trivial⟩ ?_
        refine g_icmp_eq (off := 7) (tgt := 113) (by decide +kernel) (by decide) (fun c11 => ?_) (fun c11 => ?_)
        · have nc11 : s = 2 := (nI_eq (by omega) (by omega)).mp (by simpa only [hn, nI_add, pk_mul, nI_s1, n0_lit] using c11)
          refine blk 7 [(.iconst 0, 0, 0, (nI 0)), (.istore 8, 0, 0, 0), (.aload_n 0, 0, 0, 0), (.aload_n 0, 0, 0, 0), (.getfield 124, 7, 26, 0), (.iload 7, 0, 0, 0)] [] (by decide +kernel) rfl (pc' := 123) (ls' := [some (.ref 72), some (.int pA), some (.int qA), some (.int (nI i)), some (.int (nI j)), some (.int (nI l)), some (.int (nI s)), some (.int (nI w)), some (.int (nI 0)), none]) (st' := [.int (nI w), .int (N 72 26), .ref 72]) (M' := N) rfl ⟨trivial, trivial, trivial, trivial, rfl, trivial, trivial⟩ ?_
          refine g_callV (s_isIn N (N 72 26) w) ok_X7_walk_X7_isIn (by decide +kernel) rfl (c := 7) rfl (by decide) rfl (Nat.le_of_ble_eq_true rfl) (fun r M' h => ?_) rfl
          obtain ⟨hr, hM⟩ := h
          rw [hr, hM]
          show G _ 126 [some (.ref 72), some (.int pA), some (.int qA), some (.int (nI i)), some (.int (nI j)), some (.int (nI l)), some (.int (nI s)), some (.int (nI w)), some (.int (nI 0)), none] [.int (hb (N 72 26) w)] N _
          refine g_if_eq (off := 13) (tgt := 139) (by decide +kernel) (by decide) (fun c12 => ?_) (fun c12 => ?_)
          · refine blk 7 [(.iconst 0, 0, 0, (nI 0)), (.istore 9, 0, 0, 0), (.aload_n 0, 0, 0, 0), (.getfield 71, 7, 32, 0), (.bipush 60, 0, 0, (nI 60)), (.iload 7, 0, 0, 0), (.imul, 0, 0, 0), (.aload_n 0, 0, 0, 0), (.getfield 161, 7, 31, 0), (.iadd, 0, 0, 0), (.iload 8, 0, 0, 0)] [] (by decide +kernel) rfl (pc' := 158) (ls' := [some (.ref 72), some (.int pA), some (.int qA), some (.int (nI i)), some (.int (nI j)), some (.int (nI l)), some (.int (nI s)), some (.int (nI w)), some (.int (nI 0)), some (.int (nI 0))]) (st' := [.int (nI 0), .int (((nI 60) * (nI w)) + (N 72 31)), .ref 92]) (M' := N) rfl ⟨trivial, trivial, trivial, rfl, trivial, trivial, trivial, trivial, rfl, trivial, trivial, trivial⟩ ?_
            refine g_if_eq (off := 18) (tgt := 176) (by decide +kernel) (by decide) (fun c13 => ?_) (fun c13 => ?_)
            · refine blk 7 [(.iload 9, 0, 0, 0)] [] (by decide +kernel) rfl (pc' := 178) (ls' := [some (.ref 72), some (.int pA), some (.int qA), some (.int (nI i)), some (.int (nI j)), some (.int (nI l)), some (.int (nI s)), some (.int (nI w)), some (.int (nI 0)), some (.int (nI 0))]) (st' := [.int (nI 0), .int (((nI 60) * (nI w)) + (N 72 31)), .ref 92]) (M' := N) rfl ⟨trivial, trivial⟩ ?_
              refine g_if_eq (off := 19) (tgt := 197) (by decide +kernel) (by decide) (fun c14 => ?_) (fun c14 => ?_)
              · refine blk 7 [(.iconst (-1), 0, 0, (-1)), (.iastore, 0, 0, 0), (.iinc 7 1, 0, 0, (nI 1)), (.goto (-118), 84, 0, 0)] [60 * w + n] (by decide +kernel) rfl (pc' := 84) (ls' := [some (.ref 72), some (.int pA), some (.int qA), some (.int (nI i)), some (.int (nI j)), some (.int (nI l)), some (.int (nI s)), some (.int (nI w + nI 1)), some (.int (nI 0)), some (.int (nI 0))]) (st' := []) (M' := stm N 92 (60 * w + n) (-1)) rfl ⟨trivial, ⟨(by simp only [hn, nI_add, pk_mul, nI_s1, Nat.reduceAdd, Nat.reduceMul]), (by show _ < 300; omega), by decide⟩, trivial, trivial, trivial⟩ ?_
                have ev : -1 = mcv M i j s w := by rw [mcv, if_neg (fun z => z.2 nc11), if_neg (fun z => z.1 (by rw [← hk.2 26 (by decide)]; exact c12))]
                refine G.sub (ls' := [some (.ref 72), some (.int pA), some (.int qA), some (.int (nI i)), some (.int (nI j)), some (.int (nI l)), some (.int (nI s)), some (.int (nI (w + 1))), none, none]) ?_ ⟨rfl, rfl, rfl, rfl, rfl, rfl, rfl, congrArg (fun z => some (Value.int z)) (by simp only [nI_add, nI_s1]), trivial⟩
                refine ih (d - 1) (by omega) (w + 1) _ (by omega) (by omega) ⟨fun z h1 h2 => by rw [stm_ne h2]; exact hk.1 z h1 h2, fun f hf => by rw [stm_ne (by decide)]; exact hk.2 f hf⟩ (by rw [stm_ne (by decide)]; exact hn) (fun a c ha hc => by rw [stm_off (by omega)]; exact j1 a c ha hc) (fun c hc => ?_)
                by_cases e : c = w
                · subst e; rw [stm_self]; exact ev
                · rw [stm_off (by omega)]; exact j2 c (by omega)
              · exact absurd (by decide +kernel) c14
            · exact absurd (by decide +kernel) c13
          · refine blk 7 [(.iload 6, 0, 0, 0), (.iconst 1, 0, 0, (nI 1))] [] (by decide +kernel) rfl (pc' := 132) (ls' := [some (.ref 72), some (.int pA), some (.int qA), some (.int (nI i)), some (.int (nI j)), some (.int (nI l)), some (.int (nI s)), some (.int (nI w)), some (.int (nI 0)), none]) (st' := [.int (nI 1), .int (nI s)]) (M' := N) rfl ⟨trivial, trivial, trivial⟩ ?_
            refine g_icmp_eq (off := 7) (tgt := 139) (by decide +kernel) (by decide) (fun c15 => ?_) (fun c15 => ?_)
            · have nc15 : s = 1 := (nI_eq (by omega) (by omega)).mp (by simpa only [hn, nI_add, pk_mul, nI_s1, n0_lit] using c15)
              refine blk 7 [(.iconst 0, 0, 0, (nI 0)), (.istore 9, 0, 0, 0), (.aload_n 0, 0, 0, 0), (.getfield 71, 7, 32, 0), (.bipush 60, 0, 0, (nI 60)), (.iload 7, 0, 0, 0), (.imul, 0, 0, 0), (.aload_n 0, 0, 0, 0), (.getfield 161, 7, 31, 0), (.iadd, 0, 0, 0), (.iload 8, 0, 0, 0)] [] (by decide +kernel) rfl (pc' := 158) (ls' := [some (.ref 72), some (.int pA), some (.int qA), some (.int (nI i)), some (.int (nI j)), some (.int (nI l)), some (.int (nI s)), some (.int (nI w)), some (.int (nI 0)), some (.int (nI 0))]) (st' := [.int (nI 0), .int (((nI 60) * (nI w)) + (N 72 31)), .ref 92]) (M' := N) rfl ⟨trivial, trivial, trivial, rfl, trivial, trivial, trivial, trivial, rfl, trivial, trivial, trivial⟩ ?_
              refine g_if_eq (off := 18) (tgt := 176) (by decide +kernel) (by decide) (fun c16 => ?_) (fun c16 => ?_)
              · refine blk 7 [(.iload 9, 0, 0, 0)] [] (by decide +kernel) rfl (pc' := 178) (ls' := [some (.ref 72), some (.int pA), some (.int qA), some (.int (nI i)), some (.int (nI j)), some (.int (nI l)), some (.int (nI s)), some (.int (nI w)), some (.int (nI 0)), some (.int (nI 0))]) (st' := [.int (nI 0), .int (((nI 60) * (nI w)) + (N 72 31)), .ref 92]) (M' := N) rfl ⟨trivial, trivial⟩ ?_
                refine g_if_eq (off := 19) (tgt := 197) (by decide +kernel) (by decide) (fun c17 => ?_) (fun c17 => ?_)
                · refine blk 7 [(.iconst (-1), 0, 0, (-1)), (.iastore, 0, 0, 0), (.iinc 7 1, 0, 0, (nI 1)), (.goto (-118), 84, 0, 0)] [60 * w + n] (by decide +kernel) rfl (pc' := 84) (ls' := [some (.ref 72), some (.int pA), some (.int qA), some (.int (nI i)), some (.int (nI j)), some (.int (nI l)), some (.int (nI s)), some (.int (nI w + nI 1)), some (.int (nI 0)), some (.int (nI 0))]) (st' := []) (M' := stm N 92 (60 * w + n) (-1)) rfl ⟨trivial, ⟨(by simp only [hn, nI_add, pk_mul, nI_s1, Nat.reduceAdd, Nat.reduceMul]), (by show _ < 300; omega), by decide⟩, trivial, trivial, trivial⟩ ?_
                  have ev : -1 = mcv M i j s w := by rw [mcv, if_neg (fun z => z.2 nc11), if_neg (fun z => z.2 nc15)]
                  refine G.sub (ls' := [some (.ref 72), some (.int pA), some (.int qA), some (.int (nI i)), some (.int (nI j)), some (.int (nI l)), some (.int (nI s)), some (.int (nI (w + 1))), none, none]) ?_ ⟨rfl, rfl, rfl, rfl, rfl, rfl, rfl, congrArg (fun z => some (Value.int z)) (by simp only [nI_add, nI_s1]), trivial⟩
                  refine ih (d - 1) (by omega) (w + 1) _ (by omega) (by omega) ⟨fun z h1 h2 => by rw [stm_ne h2]; exact hk.1 z h1 h2, fun f hf => by rw [stm_ne (by decide)]; exact hk.2 f hf⟩ (by rw [stm_ne (by decide)]; exact hn) (fun a c ha hc => by rw [stm_off (by omega)]; exact j1 a c ha hc) (fun c hc => ?_)
                  by_cases e : c = w
                  · subst e; rw [stm_self]; exact ev
                  · rw [stm_off (by omega)]; exact j2 c (by omega)
                · exact absurd (by decide +kernel) c17
              · exact absurd (by decide +kernel) c16
            · have nc15 : s ≠ 1 := by
                have z : ¬ nI s = nI 1 := by simpa only [hn, nI_add, pk_mul, nI_s1, n0_lit] using c15
                rw [nI_eq (by omega) (by omega)] at z
                omega
              refine blk 7 [(.iconst 1, 0, 0, (nI 1)), (.goto (4), 140, 0, 0), (.istore 9, 0, 0, 0), (.aload_n 0, 0, 0, 0), (.getfield 71, 7, 32, 0), (.bipush 60, 0, 0, (nI 60)), (.iload 7, 0, 0, 0), (.imul, 0, 0, 0), (.aload_n 0, 0, 0, 0), (.getfield 161, 7, 31, 0), (.iadd, 0, 0, 0), (.iload 8, 0, 0, 0)] [] (by decide +kernel) rfl (pc' := 158) (ls' := [some (.ref 72), some (.int pA), some (.int qA), some (.int (nI i)), some (.int (nI j)), some (.int (nI l)), some (.int (nI s)), some (.int (nI w)), some (.int (nI 0)), some (.int (nI 1))]) (st' := [.int (nI 0), .int (((nI 60) * (nI w)) + (N 72 31)), .ref 92]) (M' := N) rfl ⟨trivial, trivial, trivial, trivial, rfl, trivial, trivial, trivial, trivial, rfl, trivial, trivial, trivial⟩ ?_
              refine g_if_eq (off := 18) (tgt := 176) (by decide +kernel) (by decide) (fun c18 => ?_) (fun c18 => ?_)
              · refine blk 7 [(.iload 9, 0, 0, 0)] [] (by decide +kernel) rfl (pc' := 178) (ls' := [some (.ref 72), some (.int pA), some (.int qA), some (.int (nI i)), some (.int (nI j)), some (.int (nI l)), some (.int (nI s)), some (.int (nI w)), some (.int (nI 0)), some (.int (nI 1))]) (st' := [.int (nI 1), .int (((nI 60) * (nI w)) + (N 72 31)), .ref 92]) (M' := N) rfl ⟨trivial, trivial⟩ ?_
                refine g_if_eq (off := 19) (tgt := 197) (by decide +kernel) (by decide) (fun c19 => ?_) (fun c19 => ?_)
                · exact absurd c19 (by decide +kernel)
                · refine blk 7 [(.aload_n 0, 0, 0, 0), (.getfield 68, 7, 30, 0), (.bipush 60, 0, 0, (nI 60)), (.iload 7, 0, 0, 0), (.imul, 0, 0, 0), (.iload 4, 0, 0, 0), (.iadd, 0, 0, 0), (.iaload, 0, 0, 0), (.goto (4), 198, 0, 0), (.iastore, 0, 0, 0), (.iinc 7 1, 0, 0, (nI 1)), (.goto (-118), 84, 0, 0)] [60 * w + j, 60 * w + n] (by decide +kernel) rfl (pc' := 84) (ls' := [some (.ref 72), some (.int pA), some (.int qA), some (.int (nI i)), some (.int (nI j)), some (.int (nI l)), some (.int (nI s)), some (.int (nI w + nI 1)), some (.int (nI 0)), some (.int (nI 1))]) (st' := []) (M' := stm N 92 (60 * w + n) (N 91 (60 * w + j))) rfl ⟨trivial, rfl, trivial, trivial, trivial, trivial, trivial, ⟨(by simp only [hn, nI_add, pk_mul, nI_s1, Nat.reduceAdd, Nat.reduceMul]), (by show _ < 300; have := h1j (by assumption); omega)⟩, trivial, ⟨(by simp only [hn, nI_add, pk_mul, nI_s1, Nat.reduceAdd, Nat.reduceMul]), (by show _ < 300; omega), by decide⟩, trivial, trivial, trivial⟩ ?_
                  have ev : N 91 (60 * w + j) = mcv M i j s w := by rw [mcv, if_neg (fun z => z.2 nc11), if_pos ⟨(by rw [← hk.2 26 (by decide)]; exact c12), nc15⟩, ← hk.1 91 (by decide) (by decide)]
                  refine G.sub (ls' := [some (.ref 72), some (.int pA), some (.int qA), some (.int (nI i)), some (.int (nI j)), some (.int (nI l)), some (.int (nI s)), some (.int (nI (w + 1))), none, none]) ?_ ⟨rfl, rfl, rfl, rfl, rfl, rfl, rfl, congrArg (fun z => some (Value.int z)) (by simp only [nI_add, nI_s1]), trivial⟩
                  refine ih (d - 1) (by omega) (w + 1) _ (by omega) (by omega) ⟨fun z h1 h2 => by rw [stm_ne h2]; exact hk.1 z h1 h2, fun f hf => by rw [stm_ne (by decide)]; exact hk.2 f hf⟩ (by rw [stm_ne (by decide)]; exact hn) (fun a c ha hc => by rw [stm_off (by omega)]; exact j1 a c ha hc) (fun c hc => ?_)
                  by_cases e : c = w
                  · subst e; rw [stm_self]; exact ev
                  · rw [stm_off (by omega)]; exact j2 c (by omega)
              · exact absurd (by decide +kernel) c18
        · have nc11 : s ≠ 2 := by
            have z : ¬ nI s = nI 2 := by simpa only [hn, nI_add, pk_mul, nI_s1, n0_lit] using c11
            rw [nI_eq (by omega) (by omega)] at z
            omega
          refine blk 7 [(.iconst 1, 0, 0, (nI 1)), (.goto (4), 114, 0, 0), (.istore 8, 0, 0, 0), (.aload_n 0, 0, 0, 0), (.aload_n 0, 0, 0, 0), (.getfield 124, 7, 26, 0), (.iload 7, 0, 0, 0)] [] (by decide +kernel) rfl (pc' := 123) (ls' := [some (.ref 72), some (.int pA), some (.int qA), some (.int (nI i)), some (.int (nI j)), some (.int (nI l)), some (.int (nI s)), some (.int (nI w)), some (.int (nI 1)), none]) (st' := [.int (nI w), .int (N 72 26), .ref 72]) (M' := N) rfl ⟨trivial, trivial, trivial, trivial, trivial, rfl, trivial, trivial⟩ ?_
          refine g_callV (s_isIn N (N 72 26) w) ok_X7_walk_X7_isIn (by decide +kernel) rfl (c := 7) rfl (by decide) rfl (Nat.le_of_ble_eq_true rfl) (fun r M' h => ?_) rfl
          obtain ⟨hr, hM⟩ := h
          rw [hr, hM]
          show G _ 126 [some (.ref 72), some (.int pA), some (.int qA), some (.int (nI i)), some (.int (nI j)), some (.int (nI l)), some (.int (nI s)), some (.int (nI w)), some (.int (nI 1)), none] [.int (hb (N 72 26) w)] N _
          refine g_if_eq (off := 13) (tgt := 139) (by decide +kernel) (by decide) (fun c20 => ?_) (fun c20 => ?_)
          · refine blk 7 [(.iconst 0, 0, 0, (nI 0)), (.istore 9, 0, 0, 0), (.aload_n 0, 0, 0, 0), (.getfield 71, 7, 32, 0), (.bipush 60, 0, 0, (nI 60)), (.iload 7, 0, 0, 0), (.imul, 0, 0, 0), (.aload_n 0, 0, 0, 0), (.getfield 161, 7, 31, 0), (.iadd, 0, 0, 0), (.iload 8, 0, 0, 0)] [] (by decide +kernel) rfl (pc' := 158) (ls' := [some (.ref 72), some (.int pA), some (.int qA), some (.int (nI i)), some (.int (nI j)), some (.int (nI l)), some (.int (nI s)), some (.int (nI w)), some (.int (nI 1)), some (.int (nI 0))]) (st' := [.int (nI 1), .int (((nI 60) * (nI w)) + (N 72 31)), .ref 92]) (M' := N) rfl ⟨trivial, trivial, trivial, rfl, trivial, trivial, trivial, trivial, rfl, trivial, trivial, trivial⟩ ?_
            refine g_if_eq (off := 18) (tgt := 176) (by decide +kernel) (by decide) (fun c21 => ?_) (fun c21 => ?_)
            · exact absurd c21 (by decide +kernel)
            · refine blk 7 [(.aload_n 0, 0, 0, 0), (.getfield 65, 7, 29, 0), (.bipush 60, 0, 0, (nI 60)), (.iload 7, 0, 0, 0), (.imul, 0, 0, 0), (.iload_n 3, 0, 0, 0), (.iadd, 0, 0, 0), (.iaload, 0, 0, 0), (.goto (25), 198, 0, 0), (.iastore, 0, 0, 0), (.iinc 7 1, 0, 0, (nI 1)), (.goto (-118), 84, 0, 0)] [60 * w + i, 60 * w + n] (by decide +kernel) rfl (pc' := 84) (ls' := [some (.ref 72), some (.int pA), some (.int qA), some (.int (nI i)), some (.int (nI j)), some (.int (nI l)), some (.int (nI s)), some (.int (nI w + nI 1)), some (.int (nI 1)), some (.int (nI 0))]) (st' := []) (M' := stm N 92 (60 * w + n) (N 90 (60 * w + i))) rfl ⟨trivial, rfl, trivial, trivial, trivial, trivial, trivial, ⟨(by simp only [hn, nI_add, pk_mul, nI_s1, Nat.reduceAdd, Nat.reduceMul]), (by show _ < 300; have := h2i (by assumption); omega)⟩, trivial, ⟨(by simp only [hn, nI_add, pk_mul, nI_s1, Nat.reduceAdd, Nat.reduceMul]), (by show _ < 300; omega), by decide⟩, trivial, trivial, trivial⟩ ?_
              have ev : N 90 (60 * w + i) = mcv M i j s w := by rw [mcv, if_pos ⟨(by rw [← hk.2 25 (by decide)]; exact c2), nc11⟩, ← hk.1 90 (by decide) (by decide)]
              refine G.sub (ls' := [some (.ref 72), some (.int pA), some (.int qA), some (.int (nI i)), some (.int (nI j)), some (.int (nI l)), some (.int (nI s)), some (.int (nI (w + 1))), none, none]) ?_ ⟨rfl, rfl, rfl, rfl, rfl, rfl, rfl, congrArg (fun z => some (Value.int z)) (by simp only [nI_add, nI_s1]), trivial⟩
              refine ih (d - 1) (by omega) (w + 1) _ (by omega) (by omega) ⟨fun z h1 h2 => by rw [stm_ne h2]; exact hk.1 z h1 h2, fun f hf => by rw [stm_ne (by decide)]; exact hk.2 f hf⟩ (by rw [stm_ne (by decide)]; exact hn) (fun a c ha hc => by rw [stm_off (by omega)]; exact j1 a c ha hc) (fun c hc => ?_)
              by_cases e : c = w
              · subst e; rw [stm_self]; exact ev
              · rw [stm_off (by omega)]; exact j2 c (by omega)
          · refine blk 7 [(.iload 6, 0, 0, 0), (.iconst 1, 0, 0, (nI 1))] [] (by decide +kernel) rfl (pc' := 132) (ls' := [some (.ref 72), some (.int pA), some (.int qA), some (.int (nI i)), some (.int (nI j)), some (.int (nI l)), some (.int (nI s)), some (.int (nI w)), some (.int (nI 1)), none]) (st' := [.int (nI 1), .int (nI s)]) (M' := N) rfl ⟨trivial, trivial, trivial⟩ ?_
            refine g_icmp_eq (off := 7) (tgt := 139) (by decide +kernel) (by decide) (fun c22 => ?_) (fun c22 => ?_)
            · have nc22 : s = 1 := (nI_eq (by omega) (by omega)).mp (by simpa only [hn, nI_add, pk_mul, nI_s1, n0_lit] using c22)
              refine blk 7 [(.iconst 0, 0, 0, (nI 0)), (.istore 9, 0, 0, 0), (.aload_n 0, 0, 0, 0), (.getfield 71, 7, 32, 0), (.bipush 60, 0, 0, (nI 60)), (.iload 7, 0, 0, 0), (.imul, 0, 0, 0), (.aload_n 0, 0, 0, 0), (.getfield 161, 7, 31, 0), (.iadd, 0, 0, 0), (.iload 8, 0, 0, 0)] [] (by decide +kernel) rfl (pc' := 158) (ls' := [some (.ref 72), some (.int pA), some (.int qA), some (.int (nI i)), some (.int (nI j)), some (.int (nI l)), some (.int (nI s)), some (.int (nI w)), some (.int (nI 1)), some (.int (nI 0))]) (st' := [.int (nI 1), .int (((nI 60) * (nI w)) + (N 72 31)), .ref 92]) (M' := N) rfl ⟨trivial, trivial, trivial, rfl, trivial, trivial, trivial, trivial, rfl, trivial, trivial, trivial⟩ ?_
              refine g_if_eq (off := 18) (tgt := 176) (by decide +kernel) (by decide) (fun c23 => ?_) (fun c23 => ?_)
              · exact absurd c23 (by decide +kernel)
              · refine blk 7 [(.aload_n 0, 0, 0, 0), (.getfield 65, 7, 29, 0), (.bipush 60, 0, 0, (nI 60)), (.iload 7, 0, 0, 0), (.imul, 0, 0, 0), (.iload_n 3, 0, 0, 0), (.iadd, 0, 0, 0), (.iaload, 0, 0, 0), (.goto (25), 198, 0, 0), (.iastore, 0, 0, 0), (.iinc 7 1, 0, 0, (nI 1)), (.goto (-118), 84, 0, 0)] [60 * w + i, 60 * w + n] (by decide +kernel) rfl (pc' := 84) (ls' := [some (.ref 72), some (.int pA), some (.int qA), some (.int (nI i)), some (.int (nI j)), some (.int (nI l)), some (.int (nI s)), some (.int (nI w + nI 1)), some (.int (nI 1)), some (.int (nI 0))]) (st' := []) (M' := stm N 92 (60 * w + n) (N 90 (60 * w + i))) rfl ⟨trivial, rfl, trivial, trivial, trivial, trivial, trivial, ⟨(by simp only [hn, nI_add, pk_mul, nI_s1, Nat.reduceAdd, Nat.reduceMul]), (by show _ < 300; have := h2i (by assumption); omega)⟩, trivial, ⟨(by simp only [hn, nI_add, pk_mul, nI_s1, Nat.reduceAdd, Nat.reduceMul]), (by show _ < 300; omega), by decide⟩, trivial, trivial, trivial⟩ ?_
                have ev : N 90 (60 * w + i) = mcv M i j s w := by rw [mcv, if_pos ⟨(by rw [← hk.2 25 (by decide)]; exact c2), nc11⟩, ← hk.1 90 (by decide) (by decide)]
                refine G.sub (ls' := [some (.ref 72), some (.int pA), some (.int qA), some (.int (nI i)), some (.int (nI j)), some (.int (nI l)), some (.int (nI s)), some (.int (nI (w + 1))), none, none]) ?_ ⟨rfl, rfl, rfl, rfl, rfl, rfl, rfl, congrArg (fun z => some (Value.int z)) (by simp only [nI_add, nI_s1]), trivial⟩
                refine ih (d - 1) (by omega) (w + 1) _ (by omega) (by omega) ⟨fun z h1 h2 => by rw [stm_ne h2]; exact hk.1 z h1 h2, fun f hf => by rw [stm_ne (by decide)]; exact hk.2 f hf⟩ (by rw [stm_ne (by decide)]; exact hn) (fun a c ha hc => by rw [stm_off (by omega)]; exact j1 a c ha hc) (fun c hc => ?_)
                by_cases e : c = w
                · subst e; rw [stm_self]; exact ev
                · rw [stm_off (by omega)]; exact j2 c (by omega)
            · have nc22 : s ≠ 1 := by
                have z : ¬ nI s = nI 1 := by simpa only [hn, nI_add, pk_mul, nI_s1, n0_lit] using c22
                rw [nI_eq (by omega) (by omega)] at z
                omega
              refine blk 7 [(.iconst 1, 0, 0, (nI 1)), (.goto (4), 140, 0, 0), (.istore 9, 0, 0, 0), (.aload_n 0, 0, 0, 0), (.getfield 71, 7, 32, 0), (.bipush 60, 0, 0, (nI 60)), (.iload 7, 0, 0, 0), (.imul, 0, 0, 0), (.aload_n 0, 0, 0, 0), (.getfield 161, 7, 31, 0), (.iadd, 0, 0, 0), (.iload 8, 0, 0, 0)] [] (by decide +kernel) rfl (pc' := 158) (ls' := [some (.ref 72), some (.int pA), some (.int qA), some (.int (nI i)), some (.int (nI j)), some (.int (nI l)), some (.int (nI s)), some (.int (nI w)), some (.int (nI 1)), some (.int (nI 1))]) (st' := [.int (nI 1), .int (((nI 60) * (nI w)) + (N 72 31)), .ref 92]) (M' := N) rfl ⟨trivial, trivial, trivial, trivial, rfl, trivial, trivial, trivial, trivial, rfl, trivial, trivial, trivial⟩ ?_
              refine g_if_eq (off := 18) (tgt := 176) (by decide +kernel) (by decide) (fun c24 => ?_) (fun c24 => ?_)
              · exact absurd c24 (by decide +kernel)
              · refine blk 7 [(.aload_n 0, 0, 0, 0), (.getfield 65, 7, 29, 0), (.bipush 60, 0, 0, (nI 60)), (.iload 7, 0, 0, 0), (.imul, 0, 0, 0), (.iload_n 3, 0, 0, 0), (.iadd, 0, 0, 0), (.iaload, 0, 0, 0), (.goto (25), 198, 0, 0), (.iastore, 0, 0, 0), (.iinc 7 1, 0, 0, (nI 1)), (.goto (-118), 84, 0, 0)] [60 * w + i, 60 * w + n] (by decide +kernel) rfl (pc' := 84) (ls' := [some (.ref 72), some (.int pA), some (.int qA), some (.int (nI i)), some (.int (nI j)), some (.int (nI l)), some (.int (nI s)), some (.int (nI w + nI 1)), some (.int (nI 1)), some (.int (nI 1))]) (st' := []) (M' := stm N 92 (60 * w + n) (N 90 (60 * w + i))) rfl ⟨trivial, rfl, trivial, trivial, trivial, trivial, trivial, ⟨(by simp only [hn, nI_add, pk_mul, nI_s1, Nat.reduceAdd, Nat.reduceMul]), (by show _ < 300; have := h2i (by assumption); omega)⟩, trivial, ⟨(by simp only [hn, nI_add, pk_mul, nI_s1, Nat.reduceAdd, Nat.reduceMul]), (by show _ < 300; omega), by decide⟩, trivial, trivial, trivial⟩ ?_
                have ev : N 90 (60 * w + i) = mcv M i j s w := by rw [mcv, if_pos ⟨(by rw [← hk.2 25 (by decide)]; exact c2), nc11⟩, ← hk.1 90 (by decide) (by decide)]
                refine G.sub (ls' := [some (.ref 72), some (.int pA), some (.int qA), some (.int (nI i)), some (.int (nI j)), some (.int (nI l)), some (.int (nI s)), some (.int (nI (w + 1))), none, none]) ?_ ⟨rfl, rfl, rfl, rfl, rfl, rfl, rfl, congrArg (fun z => some (Value.int z)) (by simp only [nI_add, nI_s1]), trivial⟩
                refine ih (d - 1) (by omega) (w + 1) _ (by omega) (by omega) ⟨fun z h1 h2 => by rw [stm_ne h2]; exact hk.1 z h1 h2, fun f hf => by rw [stm_ne (by decide)]; exact hk.2 f hf⟩ (by rw [stm_ne (by decide)]; exact hn) (fun a c ha hc => by rw [stm_off (by omega)]; exact j1 a c ha hc) (fun c hc => ?_)
                by_cases e : c = w
                · subst e; rw [stm_self]; exact ev
                · rw [stm_off (by omega)]; exact j2 c (by omega)
theorem l_mw {M : Mem} {p q : Nat} {pA qA : Int32} (hm : mgr M p q) (hpq : p + q ≤ 60) (hmo : mOK M p q pA qA) : ∀ d n i j l N, d = p + q - (i + j) → i ≤ p → j ≤ q → l ≤ 2 → i = (mst M p q pA qA n).1 → j = (mst M p q pA qA n).2.1 → l = (mst M p q pA qA n).2.2 → n ≤ i + j → (∀ k, k < n → ((mst M p q pA qA k).1 ≤ p ∧ (mst M p q pA qA k).2.1 ≤ q ∧ ((mst M p q pA qA k).1 < p ∨ (mst M p q pA qA k).2.1 < q))) → N 72 31 = nI n → (∀ k w, k < n → w < 5 → N 92 (60 * w + k) = mcv M (mst M p q pA qA k).1 (mst M p q pA qA k).2.1 (mst M p q pA qA (k + 1)).2.2 w) → keepW M N → G mX7_walk 13 [some (.ref 72), some (.int pA), some (.int qA), some (.int (nI i)), some (.int (nI j)), some (.int (nI l)), none, none, none, none] [] N (mwalkP M p q pA qA) := by
  have ⟨m1, m2, m3, m4⟩ := hm
  intro d
  induction d using Nat.strongRecOn with
  | ind d ih =>
    intro n i j l N hd hi hj hl hw1 hw2 hw3 hnij ip hn j1 hk
    have n1 : N 72 27 = nI p := by rw [hk.2 27 (by decide)]; exact m1
    have n2 : N 72 28 = nI q := by rw [hk.2 28 (by decide)]; exact m2
    refine blk 7 [(.iload_n 3, 0, 0, 0), (.aload_n 0, 0, 0, 0), (.getfield 121, 7, 27, 0)] [] (by decide +kernel) rfl (pc' := 18) (ls' := [some (.ref 72), some (.int pA), some (.int qA), some (.int (nI i)), some (.int (nI j)), some (.int (nI l)), none, none, none, none]) (st' := [.int (N 72 27), .int (nI i)]) (M' := N) rfl ⟨trivial, trivial, rfl, trivial⟩ ?_
    refine g_icmp_lt (off := 12) (tgt := 30) (by decide +kernel) (by decide) (fun c1 => ?_) (fun c1 => ?_)
    · have nc1 : i < p := (nI_ltI (by omega) (by omega)).mp (by simpa only [hn, n1, n2, nI_add, pk_mul, nI_s1, n0_lit] using c1)
      refine blk 7 [(.iconst 0, 0, 0, (nI 0)), (.istore 6, 0, 0, 0)] [] (by decide +kernel) rfl (pc' := 33) (ls' := [some (.ref 72), some (.int pA), some (.int qA), some (.int (nI i)), some (.int (nI j)), some (.int (nI l)), some (.int (nI 0)), none, none, none]) (st' := []) (M' := N) rfl ⟨trivial, trivial, trivial⟩ ?_
      have hok := hmo i j l hi hj (by omega) hl
      have hs := mch_le M p q pA qA i j l
      refine l_mw1 hm hk hi hj hl hok ?_ _ 0 rfl (by omega) (fun a h => absurd h (by omega))
      have hcv := canB_of (Bool.and_eq_true _ _ ▸ hok).1
      generalize hsg : mch M p q pA qA i j l = s at hs hcv
      refine blk 7 [(.iconst 0, 0, 0, (nI 0)), (.istore 7, 0, 0, 0)] [] (by decide +kernel) rfl (pc' := 84) (ls' := [some (.ref 72), some (.int pA), some (.int qA), some (.int (nI i)), some (.int (nI j)), some (.int (nI l)), some (.int (nI s)), some (.int (nI 0)), none, none]) (st' := []) (M' := N) rfl ⟨trivial, trivial, trivial⟩ ?_
      refine l_mw2 (M := M) (g := fun k w => mcv M (mst M p q pA qA k).1 (mst M p q pA qA k).2.1 (mst M p q pA qA (k + 1)).2.2 w) hs (by omega) (fun h => by have := m3; omega) (fun h => by have := m4; omega) (fun A hkA hnA hA => ?_) _ 0 N rfl (by omega) hk hn j1 (fun c h => absurd h (by omega))
      refine blk 7 [(.aload_n 0, 0, 0, 0), (.dup, 0, 0, 0), (.getfield 161, 7, 31, 0), (.iconst 1, 0, 0, (nI 1)), (.iadd, 0, 0, 0), (.putfield 161, 7, 31, 0), (.iload_n 3, 0, 0, 0), (.iload 6, 0, 0, 0), (.iconst 2, 0, 0, (nI 2))] [] (by decide +kernel) rfl (pc' := 219) (ls' := [some (.ref 72), some (.int pA), some (.int qA), some (.int (nI i)), some (.int (nI j)), some (.int (nI l)), some (.int (nI s)), none, none, none]) (st' := [.int (nI 2), .int (nI s), .int (nI i)]) (M' := stm A 72 31 ((A 72 31) + (nI 1))) rfl ⟨trivial, rfl, rfl, trivial, trivial, rfl, trivial, trivial, trivial, trivial⟩ ?_
      refine g_icmp_ne (off := 7) (tgt := 226) (by decide +kernel) (by decide) (fun c1 => ?_) (fun c1 => ?_)
      · have nc1 : s ≠ 2 := by
          have z : ¬ nI s = nI 2 := by simpa only [hnA, nI_add, pk_mul, nI_s1, n0_lit] using c1
          rw [nI_eq (by omega) (by omega)] at z
          omega
        refine blk 7 [(.iconst 1, 0, 0, (nI 1)), (.iadd, 0, 0, 0), (.istore_n 3, 0, 0, 0), (.iload 4, 0, 0, 0), (.iload 6, 0, 0, 0), (.iconst 1, 0, 0, (nI 1))] [] (by decide +kernel) rfl (pc' := 234) (ls' := [some (.ref 72), some (.int pA), some (.int qA), some (.int ((nI i) + (nI 1))), some (.int (nI j)), some (.int (nI l)), some (.int (nI s)), none, none, none]) (st' := [.int (nI 1), .int (nI s), .int (nI j)]) (M' := stm A 72 31 ((A 72 31) + (nI 1))) rfl ⟨trivial, trivial, trivial, trivial, trivial, trivial, trivial⟩ ?_
        refine g_icmp_ne (off := 7) (tgt := 241) (by decide +kernel) (by decide) (fun c2 => ?_) (fun c2 => ?_)
        · have nc2 : s ≠ 1 := by
            have z : ¬ nI s = nI 1 := by simpa only [hnA, nI_add, pk_mul, nI_s1, n0_lit] using c2
            rw [nI_eq (by omega) (by omega)] at z
            omega
          refine blk 7 [(.iconst 1, 0, 0, (nI 1)), (.iadd, 0, 0, 0), (.istore 4, 0, 0, 0), (.iload 6, 0, 0, 0), (.istore 5, 0, 0, 0), (.goto (-236), 13, 0, 0)] [] (by decide +kernel) rfl (pc' := 13) (ls' := [some (.ref 72), some (.int pA), some (.int qA), some (.int ((nI i) + (nI 1))), some (.int ((nI j) + (nI 1))), some (.int (nI s)), some (.int (nI s)), none, none, none]) (st' := []) (M' := stm A 72 31 ((A 72 31) + (nI 1))) rfl ⟨trivial, trivial, trivial, trivial, trivial, trivial, trivial⟩ ?_
          have hv := hcv.1 (by omega)
          have ew : mst M p q pA qA (n + 1) = (i + 1, j + 1, s) := by
            rw [mst, ← hw1, ← hw2, ← hw3, hsg]; simp [*]
          refine G.sub (ls' := [some (.ref 72), some (.int pA), some (.int qA), some (.int (nI (i + 1))), some (.int (nI (j + 1))), some (.int (nI s)), none, none, none, none]) ?_ ⟨rfl, rfl, rfl, congrArg (fun z => some (Value.int z)) (by simp only [nI_add, Nat.add_zero]), congrArg (fun z => some (Value.int z)) (by simp only [nI_add, Nat.add_zero]), rfl, trivial⟩
          refine ih (p + q - ((i + 1) + (j + 1))) (by omega) (n + 1) (i + 1) (j + 1) s _ rfl (by omega) (by omega) hs (by rw [ew]) (by rw [ew]) (by rw [ew]) (by omega) (fun k hk => ?_) (by rw [stm_self, hnA, nI_add]) (fun k w hk hw => ?_) ⟨fun z h1 h2 => by rw [stm_ne h1]; exact hkA.1 z h1 h2, fun f hf => by rw [stm_off hf]; exact hkA.2 f hf⟩
          · by_cases e : k = n
            · subst e; rw [← hw1, ← hw2]; exact ⟨hi, hj, by omega⟩
            · exact ip k (by omega)
          · rw [stm_ne (by decide), hA k w (by omega) hw]
            by_cases e : k = n
            · subst e; rw [if_pos rfl, ew, ← hw1, ← hw2]
            · rw [if_neg e]
        · have nc2 : s = 1 := (nI_eq (by omega) (by omega)).mp (by simpa only [hnA, nI_add, pk_mul, nI_s1, n0_lit] using c2)
          refine blk 7 [(.iconst 0, 0, 0, (nI 0)), (.goto (4), 242, 0, 0), (.iadd, 0, 0, 0), (.istore 4, 0, 0, 0), (.iload 6, 0, 0, 0), (.istore 5, 0, 0, 0), (.goto (-236), 13, 0, 0)] [] (by decide +kernel) rfl (pc' := 13) (ls' := [some (.ref 72), some (.int pA), some (.int qA), some (.int ((nI i) + (nI 1))), some (.int ((nI j) + (nI 0))), some (.int (nI s)), some (.int (nI s)), none, none, none]) (st' := []) (M' := stm A 72 31 ((A 72 31) + (nI 1))) rfl ⟨trivial, trivial, trivial, trivial, trivial, trivial, trivial, trivial⟩ ?_
          have hv := hcv.2.1 nc2
          have ew : mst M p q pA qA (n + 1) = (i + 1, j, s) := by
            rw [mst, ← hw1, ← hw2, ← hw3, hsg]; simp [*]
          refine G.sub (ls' := [some (.ref 72), some (.int pA), some (.int qA), some (.int (nI (i + 1))), some (.int (nI j)), some (.int (nI s)), none, none, none, none]) ?_ ⟨rfl, rfl, rfl, congrArg (fun z => some (Value.int z)) (by simp only [nI_add, Nat.add_zero]), congrArg (fun z => some (Value.int z)) (by simp only [nI_add, Nat.add_zero]), rfl, trivial⟩
          refine ih (p + q - ((i + 1) + j)) (by omega) (n + 1) (i + 1) j s _ rfl (by omega) (by omega) hs (by rw [ew]) (by rw [ew]) (by rw [ew]) (by omega) (fun k hk => ?_) (by rw [stm_self, hnA, nI_add]) (fun k w hk hw => ?_) ⟨fun z h1 h2 => by rw [stm_ne h1]; exact hkA.1 z h1 h2, fun f hf => by rw [stm_off hf]; exact hkA.2 f hf⟩
          · by_cases e : k = n
            · subst e; rw [← hw1, ← hw2]; exact ⟨hi, hj, by omega⟩
            · exact ip k (by omega)
          · rw [stm_ne (by decide), hA k w (by omega) hw]
            by_cases e : k = n
            · subst e; rw [if_pos rfl, ew, ← hw1, ← hw2]
            · rw [if_neg e]
      · have nc1 : s = 2 := (nI_eq (by omega) (by omega)).mp (by simpa only [hnA, nI_add, pk_mul, nI_s1, n0_lit] using c1)
        refine blk 7 [(.iconst 0, 0, 0, (nI 0)), (.goto (4), 227, 0, 0), (.iadd, 0, 0, 0), (.istore_n 3, 0, 0, 0), (.iload 4, 0, 0, 0), (.iload 6, 0, 0, 0), (.iconst 1, 0, 0, (nI 1))] [] (by decide +kernel) rfl (pc' := 234) (ls' := [some (.ref 72), some (.int pA), some (.int qA), some (.int ((nI i) + (nI 0))), some (.int (nI j)), some (.int (nI l)), some (.int (nI s)), none, none, none]) (st' := [.int (nI 1), .int (nI s), .int (nI j)]) (M' := stm A 72 31 ((A 72 31) + (nI 1))) rfl ⟨trivial, trivial, trivial, trivial, trivial, trivial, trivial, trivial⟩ ?_
        refine g_icmp_ne (off := 7) (tgt := 241) (by decide +kernel) (by decide) (fun c3 => ?_) (fun c3 => ?_)
        · have nc3 : s ≠ 1 := by
            have z : ¬ nI s = nI 1 := by simpa only [hnA, nI_add, pk_mul, nI_s1, n0_lit] using c3
            rw [nI_eq (by omega) (by omega)] at z
            omega
          refine blk 7 [(.iconst 1, 0, 0, (nI 1)), (.iadd, 0, 0, 0), (.istore 4, 0, 0, 0), (.iload 6, 0, 0, 0), (.istore 5, 0, 0, 0), (.goto (-236), 13, 0, 0)] [] (by decide +kernel) rfl (pc' := 13) (ls' := [some (.ref 72), some (.int pA), some (.int qA), some (.int ((nI i) + (nI 0))), some (.int ((nI j) + (nI 1))), some (.int (nI s)), some (.int (nI s)), none, none, none]) (st' := []) (M' := stm A 72 31 ((A 72 31) + (nI 1))) rfl ⟨trivial, trivial, trivial, trivial, trivial, trivial, trivial⟩ ?_
          have hv := hcv.2.2 (by omega)
          have ew : mst M p q pA qA (n + 1) = (i, j + 1, s) := by
            rw [mst, ← hw1, ← hw2, ← hw3, hsg]; simp [*]
          refine G.sub (ls' := [some (.ref 72), some (.int pA), some (.int qA), some (.int (nI i)), some (.int (nI (j + 1))), some (.int (nI s)), none, none, none, none]) ?_ ⟨rfl, rfl, rfl, congrArg (fun z => some (Value.int z)) (by simp only [nI_add, Nat.add_zero]), congrArg (fun z => some (Value.int z)) (by simp only [nI_add, Nat.add_zero]), rfl, trivial⟩
          refine ih (p + q - (i + (j + 1))) (by omega) (n + 1) i (j + 1) s _ rfl (by omega) (by omega) hs (by rw [ew]) (by rw [ew]) (by rw [ew]) (by omega) (fun k hk => ?_) (by rw [stm_self, hnA, nI_add]) (fun k w hk hw => ?_) ⟨fun z h1 h2 => by rw [stm_ne h1]; exact hkA.1 z h1 h2, fun f hf => by rw [stm_off hf]; exact hkA.2 f hf⟩
          · by_cases e : k = n
            · subst e; rw [← hw1, ← hw2]; exact ⟨hi, hj, by omega⟩
            · exact ip k (by omega)
          · rw [stm_ne (by decide), hA k w (by omega) hw]
            by_cases e : k = n
            · subst e; rw [if_pos rfl, ew, ← hw1, ← hw2]
            · rw [if_neg e]
        · have nc3 : s = 1 := (nI_eq (by omega) (by omega)).mp (by simpa only [hnA, nI_add, pk_mul, nI_s1, n0_lit] using c3)
          refine blk 7 [(.iconst 0, 0, 0, (nI 0)), (.goto (4), 242, 0, 0), (.iadd, 0, 0, 0), (.istore 4, 0, 0, 0), (.iload 6, 0, 0, 0), (.istore 5, 0, 0, 0), (.goto (-236), 13, 0, 0)] [] (by decide +kernel) rfl (pc' := 13) (ls' := [some (.ref 72), some (.int pA), some (.int qA), some (.int ((nI i) + (nI 0))), some (.int ((nI j) + (nI 0))), some (.int (nI s)), some (.int (nI s)), none, none, none]) (st' := []) (M' := stm A 72 31 ((A 72 31) + (nI 1))) rfl ⟨trivial, trivial, trivial, trivial, trivial, trivial, trivial, trivial⟩ ?_
          exact absurd (nc1.symm.trans nc3) (by decide)
    · have nc1 : p ≤ i := by
        have z : ¬ nI i < nI p := by simpa only [hn, n1, n2, nI_add, pk_mul, nI_s1, n0_lit] using c1
        rw [nI_ltI (by omega) (by omega)] at z
        omega
      refine blk 7 [(.iload 4, 0, 0, 0), (.aload_n 0, 0, 0, 0), (.getfield 127, 7, 28, 0)] [] (by decide +kernel) rfl (pc' := 27) (ls' := [some (.ref 72), some (.int pA), some (.int qA), some (.int (nI i)), some (.int (nI j)), some (.int (nI l)), none, none, none, none]) (st' := [.int (N 72 28), .int (nI j)]) (M' := N) rfl ⟨trivial, trivial, rfl, trivial⟩ ?_
      refine g_icmp_ge (off := 225) (tgt := 252) (by decide +kernel) (by decide) (fun c2 => ?_) (fun c2 => ?_)
      · have nc2 : q ≤ j := (nI_leI (by omega) (by omega)).mp (by simpa only [hn, n1, n2, nI_add, pk_mul, nI_s1, n0_lit] using c2)
        exact g_return (by decide +kernel) rfl ⟨rfl, n, by omega, by rw [← hw1]; omega, by rw [← hw2]; omega, ip, hn, j1, hk⟩
      · have nc2 : j < q := by
          have z : ¬ nI q ≤ nI j := by simpa only [hn, n1, n2, nI_add, pk_mul, nI_s1, n0_lit] using c2
          rw [nI_leI (by omega) (by omega)] at z
          omega
        refine blk 7 [(.iconst 0, 0, 0, (nI 0)), (.istore 6, 0, 0, 0)] [] (by decide +kernel) rfl (pc' := 33) (ls' := [some (.ref 72), some (.int pA), some (.int qA), some (.int (nI i)), some (.int (nI j)), some (.int (nI l)), some (.int (nI 0)), none, none, none]) (st' := []) (M' := N) rfl ⟨trivial, trivial, trivial⟩ ?_
        have hok := hmo i j l hi hj (by omega) hl
        have hs := mch_le M p q pA qA i j l
        refine l_mw1 hm hk hi hj hl hok ?_ _ 0 rfl (by omega) (fun a h => absurd h (by omega))
        have hcv := canB_of (Bool.and_eq_true _ _ ▸ hok).1
        generalize hsg : mch M p q pA qA i j l = s at hs hcv
        refine blk 7 [(.iconst 0, 0, 0, (nI 0)), (.istore 7, 0, 0, 0)] [] (by decide +kernel) rfl (pc' := 84) (ls' := [some (.ref 72), some (.int pA), some (.int qA), some (.int (nI i)), some (.int (nI j)), some (.int (nI l)), some (.int (nI s)), some (.int (nI 0)), none, none]) (st' := []) (M' := N) rfl ⟨trivial, trivial, trivial⟩ ?_
        refine l_mw2 (M := M) (g := fun k w => mcv M (mst M p q pA qA k).1 (mst M p q pA qA k).2.1 (mst M p q pA qA (k + 1)).2.2 w) hs (by omega) (fun h => by have := m3; omega) (fun h => by have := m4; omega) (fun A hkA hnA hA => ?_) _ 0 N rfl (by omega) hk hn j1 (fun c h => absurd h (by omega))
        refine blk 7 [(.aload_n 0, 0, 0, 0), (.dup, 0, 0, 0), (.getfield 161, 7, 31, 0), (.iconst 1, 0, 0, (nI 1)), (.iadd, 0, 0, 0), (.putfield 161, 7, 31, 0), (.iload_n 3, 0, 0, 0), (.iload 6, 0, 0, 0), (.iconst 2, 0, 0, (nI 2))] [] (by decide +kernel) rfl (pc' := 219) (ls' := [some (.ref 72), some (.int pA), some (.int qA), some (.int (nI i)), some (.int (nI j)), some (.int (nI l)), some (.int (nI s)), none, none, none]) (st' := [.int (nI 2), .int (nI s), .int (nI i)]) (M' := stm A 72 31 ((A 72 31) + (nI 1))) rfl ⟨trivial, rfl, rfl, trivial, trivial, rfl, trivial, trivial, trivial, trivial⟩ ?_
        refine g_icmp_ne (off := 7) (tgt := 226) (by decide +kernel) (by decide) (fun c1 => ?_) (fun c1 => ?_)
        · have nc1 : s ≠ 2 := by
            have z : ¬ nI s = nI 2 := by simpa only [hnA, nI_add, pk_mul, nI_s1, n0_lit] using c1
            rw [nI_eq (by omega) (by omega)] at z
            omega
          refine blk 7 [(.iconst 1, 0, 0, (nI 1)), (.iadd, 0, 0, 0), (.istore_n 3, 0, 0, 0), (.iload 4, 0, 0, 0), (.iload 6, 0, 0, 0), (.iconst 1, 0, 0, (nI 1))] [] (by decide +kernel) rfl (pc' := 234) (ls' := [some (.ref 72), some (.int pA), some (.int qA), some (.int ((nI i) + (nI 1))), some (.int (nI j)), some (.int (nI l)), some (.int (nI s)), none, none, none]) (st' := [.int (nI 1), .int (nI s), .int (nI j)]) (M' := stm A 72 31 ((A 72 31) + (nI 1))) rfl ⟨trivial, trivial, trivial, trivial, trivial, trivial, trivial⟩ ?_
          refine g_icmp_ne (off := 7) (tgt := 241) (by decide +kernel) (by decide) (fun c2 => ?_) (fun c2 => ?_)
          · have nc2 : s ≠ 1 := by
              have z : ¬ nI s = nI 1 := by simpa only [hnA, nI_add, pk_mul, nI_s1, n0_lit] using c2
              rw [nI_eq (by omega) (by omega)] at z
              omega
            refine blk 7 [(.iconst 1, 0, 0, (nI 1)), (.iadd, 0, 0, 0), (.istore 4, 0, 0, 0), (.iload 6, 0, 0, 0), (.istore 5, 0, 0, 0), (.goto (-236), 13, 0, 0)] [] (by decide +kernel) rfl (pc' := 13) (ls' := [some (.ref 72), some (.int pA), some (.int qA), some (.int ((nI i) + (nI 1))), some (.int ((nI j) + (nI 1))), some (.int (nI s)), some (.int (nI s)), none, none, none]) (st' := []) (M' := stm A 72 31 ((A 72 31) + (nI 1))) rfl ⟨trivial, trivial, trivial, trivial, trivial, trivial, trivial⟩ ?_
            have hv := hcv.1 (by omega)
            have ew : mst M p q pA qA (n + 1) = (i + 1, j + 1, s) := by
              rw [mst, ← hw1, ← hw2, ← hw3, hsg]; simp [*]
            refine G.sub (ls' := [some (.ref 72), some (.int pA), some (.int qA), some (.int (nI (i + 1))), some (.int (nI (j + 1))), some (.int (nI s)), none, none, none, none]) ?_ ⟨rfl, rfl, rfl, congrArg (fun z => some (Value.int z)) (by simp only [nI_add, Nat.add_zero]), congrArg (fun z => some (Value.int z)) (by simp only [nI_add, Nat.add_zero]), rfl, trivial⟩
            refine ih (p + q - ((i + 1) + (j + 1))) (by omega) (n + 1) (i + 1) (j + 1) s _ rfl (by omega) (by omega) hs (by rw [ew]) (by rw [ew]) (by rw [ew]) (by omega) (fun k hk => ?_) (by rw [stm_self, hnA, nI_add]) (fun k w hk hw => ?_) ⟨fun z h1 h2 => by rw [stm_ne h1]; exact hkA.1 z h1 h2, fun f hf => by rw [stm_off hf]; exact hkA.2 f hf⟩
            · by_cases e : k = n
              · subst e; rw [← hw1, ← hw2]; exact ⟨hi, hj, by omega⟩
              · exact ip k (by omega)
            · rw [stm_ne (by decide), hA k w (by omega) hw]
              by_cases e : k = n
              · subst e; rw [if_pos rfl, ew, ← hw1, ← hw2]
              · rw [if_neg e]
          · have nc2 : s = 1 := (nI_eq (by omega) (by omega)).mp (by simpa only [hnA, nI_add, pk_mul, nI_s1, n0_lit] using c2)
            refine blk 7 [(.iconst 0, 0, 0, (nI 0)), (.goto (4), 242, 0, 0), (.iadd, 0, 0, 0), (.istore 4, 0, 0, 0), (.iload 6, 0, 0, 0), (.istore 5, 0, 0, 0), (.goto (-236), 13, 0, 0)] [] (by decide +kernel) rfl (pc' := 13) (ls' := [some (.ref 72), some (.int pA), some (.int qA), some (.int ((nI i) + (nI 1))), some (.int ((nI j) + (nI 0))), some (.int (nI s)), some (.int (nI s)), none, none, none]) (st' := []) (M' := stm A 72 31 ((A 72 31) + (nI 1))) rfl ⟨trivial, trivial, trivial, trivial, trivial, trivial, trivial, trivial⟩ ?_
            have hv := hcv.2.1 nc2
            have ew : mst M p q pA qA (n + 1) = (i + 1, j, s) := by
              rw [mst, ← hw1, ← hw2, ← hw3, hsg]; simp [*]
            refine G.sub (ls' := [some (.ref 72), some (.int pA), some (.int qA), some (.int (nI (i + 1))), some (.int (nI j)), some (.int (nI s)), none, none, none, none]) ?_ ⟨rfl, rfl, rfl, congrArg (fun z => some (Value.int z)) (by simp only [nI_add, Nat.add_zero]), congrArg (fun z => some (Value.int z)) (by simp only [nI_add, Nat.add_zero]), rfl, trivial⟩
            refine ih (p + q - ((i + 1) + j)) (by omega) (n + 1) (i + 1) j s _ rfl (by omega) (by omega) hs (by rw [ew]) (by rw [ew]) (by rw [ew]) (by omega) (fun k hk => ?_) (by rw [stm_self, hnA, nI_add]) (fun k w hk hw => ?_) ⟨fun z h1 h2 => by rw [stm_ne h1]; exact hkA.1 z h1 h2, fun f hf => by rw [stm_off hf]; exact hkA.2 f hf⟩
            · by_cases e : k = n
              · subst e; rw [← hw1, ← hw2]; exact ⟨hi, hj, by omega⟩
              · exact ip k (by omega)
            · rw [stm_ne (by decide), hA k w (by omega) hw]
              by_cases e : k = n
              · subst e; rw [if_pos rfl, ew, ← hw1, ← hw2]
              · rw [if_neg e]
        · have nc1 : s = 2 := (nI_eq (by omega) (by omega)).mp (by simpa only [hnA, nI_add, pk_mul, nI_s1, n0_lit] using c1)
          refine blk 7 [(.iconst 0, 0, 0, (nI 0)), (.goto (4), 227, 0, 0), (.iadd, 0, 0, 0), (.istore_n 3, 0, 0, 0), (.iload 4, 0, 0, 0), (.iload 6, 0, 0, 0), (.iconst 1, 0, 0, (nI 1))] [] (by decide +kernel) rfl (pc' := 234) (ls' := [some (.ref 72), some (.int pA), some (.int qA), some (.int ((nI i) + (nI 0))), some (.int (nI j)), some (.int (nI l)), some (.int (nI s)), none, none, none]) (st' := [.int (nI 1), .int (nI s), .int (nI j)]) (M' := stm A 72 31 ((A 72 31) + (nI 1))) rfl ⟨trivial, trivial, trivial, trivial, trivial, trivial, trivial, trivial⟩ ?_
          refine g_icmp_ne (off := 7) (tgt := 241) (by decide +kernel) (by decide) (fun c3 => ?_) (fun c3 => ?_)
          · have nc3 : s ≠ 1 := by
              have z : ¬ nI s = nI 1 := by simpa only [hnA, nI_add, pk_mul, nI_s1, n0_lit] using c3
              rw [nI_eq (by omega) (by omega)] at z
              omega
            refine blk 7 [(.iconst 1, 0, 0, (nI 1)), (.iadd, 0, 0, 0), (.istore 4, 0, 0, 0), (.iload 6, 0, 0, 0), (.istore 5, 0, 0, 0), (.goto (-236), 13, 0, 0)] [] (by decide +kernel) rfl (pc' := 13) (ls' := [some (.ref 72), some (.int pA), some (.int qA), some (.int ((nI i) + (nI 0))), some (.int ((nI j) + (nI 1))), some (.int (nI s)), some (.int (nI s)), none, none, none]) (st' := []) (M' := stm A 72 31 ((A 72 31) + (nI 1))) rfl ⟨trivial, trivial, trivial, trivial, trivial, trivial, trivial⟩ ?_
            have hv := hcv.2.2 (by omega)
            have ew : mst M p q pA qA (n + 1) = (i, j + 1, s) := by
              rw [mst, ← hw1, ← hw2, ← hw3, hsg]; simp [*]
            refine G.sub (ls' := [some (.ref 72), some (.int pA), some (.int qA), some (.int (nI i)), some (.int (nI (j + 1))), some (.int (nI s)), none, none, none, none]) ?_ ⟨rfl, rfl, rfl, congrArg (fun z => some (Value.int z)) (by simp only [nI_add, Nat.add_zero]), congrArg (fun z => some (Value.int z)) (by simp only [nI_add, Nat.add_zero]), rfl, trivial⟩
            refine ih (p + q - (i + (j + 1))) (by omega) (n + 1) i (j + 1) s _ rfl (by omega) (by omega) hs (by rw [ew]) (by rw [ew]) (by rw [ew]) (by omega) (fun k hk => ?_) (by rw [stm_self, hnA, nI_add]) (fun k w hk hw => ?_) ⟨fun z h1 h2 => by rw [stm_ne h1]; exact hkA.1 z h1 h2, fun f hf => by rw [stm_off hf]; exact hkA.2 f hf⟩
            · by_cases e : k = n
              · subst e; rw [← hw1, ← hw2]; exact ⟨hi, hj, by omega⟩
              · exact ip k (by omega)
            · rw [stm_ne (by decide), hA k w (by omega) hw]
              by_cases e : k = n
              · subst e; rw [if_pos rfl, ew, ← hw1, ← hw2]
              · rw [if_neg e]
          · have nc3 : s = 1 := (nI_eq (by omega) (by omega)).mp (by simpa only [hnA, nI_add, pk_mul, nI_s1, n0_lit] using c3)
            refine blk 7 [(.iconst 0, 0, 0, (nI 0)), (.goto (4), 242, 0, 0), (.iadd, 0, 0, 0), (.istore 4, 0, 0, 0), (.iload 6, 0, 0, 0), (.istore 5, 0, 0, 0), (.goto (-236), 13, 0, 0)] [] (by decide +kernel) rfl (pc' := 13) (ls' := [some (.ref 72), some (.int pA), some (.int qA), some (.int ((nI i) + (nI 0))), some (.int ((nI j) + (nI 0))), some (.int (nI s)), some (.int (nI s)), none, none, none]) (st' := []) (M' := stm A 72 31 ((A 72 31) + (nI 1))) rfl ⟨trivial, trivial, trivial, trivial, trivial, trivial, trivial, trivial⟩ ?_
            exact absurd (nc1.symm.trans nc3) (by decide)
theorem s_mwalk (M : Mem) {p q : Nat} (pA qA : Int32) (hm : mgr M p q) (hpq : p + q ≤ 60) (hmo : mOK M p q pA qA) : Spec mX7_walk [.ref 72, .int pA, .int qA] M (mwalkP M p q pA qA) := by
  refine Spec.of (by decide) (by simp [Value.category]) (Nat.le_of_ble_eq_true rfl) ?_
  refine blk 7 [(.iconst 0, 0, 0, (nI 0)), (.istore_n 3, 0, 0, 0), (.iconst 0, 0, 0, (nI 0)), (.istore 4, 0, 0, 0), (.iconst 0, 0, 0, (nI 0)), (.istore 5, 0, 0, 0), (.aload_n 0, 0, 0, 0), (.iconst 0, 0, 0, (nI 0)), (.putfield 161, 7, 31, 0)] [] (by decide +kernel) rfl (pc' := 13) (ls' := [some (.ref 72), some (.int pA), some (.int qA), some (.int (nI 0)), some (.int (nI 0)), some (.int (nI 0)), none, none, none, none]) (st' := []) (M' := stm M 72 31 (nI 0)) rfl ⟨trivial, trivial, trivial, trivial, trivial, trivial, trivial, trivial, rfl, trivial⟩ ?_
  exact l_mw hm hpq hmo _ 0 0 0 0 _ rfl (by omega) (by omega) (by omega) rfl rfl rfl (by omega) (fun k h => absurd h (by omega)) (by rw [stm_self]) (fun k w h => absurd h (by omega)) ⟨fun z h1 _ => by rw [stm_ne h1], fun f hf => by rw [stm_off hf]⟩
