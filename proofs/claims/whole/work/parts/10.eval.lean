section EW
variable {q : MI} {o : Nat} {Post : Option Value → Mem → Prop}
theorem lset2_get {ls : List (Option Value)} {i : Nat} {v : Value} {j : Nat} {w : Value} (h : (lset2 ls i v)[j]? = some (some w)) : (j = i ∧ w = v) ∨ (j ≠ i ∧ j ≠ i + 1 ∧ ls[j]? = some (some w) ∧ ¬ (j + 1 = i ∧ w.category = 2)) := by
  unfold lset2 at h
  by_cases e : j = i + 1
  · subst e
    rw [List.getElem?_set] at h
    simp at h
  · rw [List.getElem?_set_ne (by omega)] at h
    rcases lset_get h with h1 | ⟨h1, h2, h3⟩
    · exact Or.inl h1
    · exact Or.inr ⟨h1, e, h2, h3⟩
theorem g_lstore {pc n : Nat} {ls : List (Option Value)} {st : List Value} {M : Mem} {x : Int64} (hd : decode q.cc pc = .ok (.lstore n, 2)) (hn : n + 1 < q.ml) (k : G q (pc + 2) (lset2 ls n (.long x)) st M Post) : G q pc ls (.long x :: st) M Post := by
  intro D κ ad p l e s m args below meth c H locs la C hW hS hl
  refine lv_lstore C.1 C.2.1 hd hl.has hn rfl (fun la' h' => k D κ ad p l e s m args below meth c H locs la' C hW hS (lvs.of h' (fun j w hw => ?_)))
  rcases lset2_get hw with ⟨rfl, rfl⟩ | ⟨h1, h1', h2, h3⟩
  · exact List.mem_cons_self
  · refine List.mem_cons_of_mem _ (List.mem_filter.mpr ⟨prs_in.mpr ⟨w, h2, rfl⟩, ?_⟩)
    simp only [Bool.and_eq_true, Bool.not_eq_true', beq_eq_false_iff_ne, ne_eq, Bool.and_eq_false_iff, cv_cat]
    by_cases e : j + 1 = n
    · exact ⟨h1, h1', Or.inr fun z => h3 ⟨e, z⟩⟩
    · exact ⟨h1, h1', Or.inl e⟩
theorem s_lstore {n : Nat} {S S' : AS} {c : Prop} (hd : decode q.cc S.1 = .ok (.lstore n, 2)) (hn : n + 1 < q.ml) (h : e_lstore 2 n S = some (c, S')) (hc : c) (k : GA q S' Post) : GA q S Post := by
  unfold e_lstore at h
  split at h
  · cases h; exact g_lstore hd hn k
  · cases h
theorem ev1_pc {x : AI} {S S' : AS} {c : Prop} (h : ev1 x S = some (c, S')) : S'.1 = nxt S.1 x := by
  unfold ev1 at h
  split at h
  all_goals first
    | (cases h; done)
    | (cases h; rfl)
    | (simp only [e_push, e_iload, e_aload, e_lload, e_istore, e_astore, e_lstore, e_iinc, e_getfield, e_putfield, e_iadd, e_isub, e_imul, e_iand, e_ior, e_ixor, e_ishl, e_ishr, e_idiv, e_irem, e_ineg, e_i2l, e_l2i, e_i2c, e_lsub, e_lmul, e_ldiv, e_lcmp, e_dup, e_pop, e_dup2, e_iaload, e_iastore, e_aaload, e_caload] at h
       repeat' split at h
       all_goals first | (cases h; done) | (cases h; rfl))
theorem ev1_sound (ho : q.y.cls = Rn o) {x : AI} {S S' : AS} {c : Prop} (hok : okI q o S.1 x = true) (h : ev1 x S = some (c, S')) (hc : c) (k : GA q S' Post) : GA q S Post := by
  unfold okI at hok
  rw [Bool.and_eq_true] at hok
  obtain ⟨hd0, hok⟩ := hok
  have hd := of_decide_eq_true hd0
  unfold ev1 at h
  split at h
  all_goals first
    | exact s_iadd hd h hc k
    | exact s_isub hd h hc k
    | exact s_imul hd h hc k
    | exact s_iand hd h hc k
    | exact s_ior hd h hc k
    | exact s_ixor hd h hc k
    | exact s_ishl hd h hc k
    | exact s_ishr hd h hc k
    | exact s_idiv hd h hc k
    | exact s_irem hd h hc k
    | exact s_ineg hd h hc k
    | exact s_i2l hd h hc k
    | exact s_l2i hd h hc k
    | exact s_i2c hd h hc k
    | exact s_lsub hd h hc k
    | exact s_lmul hd h hc k
    | exact s_ldiv hd h hc k
    | exact s_lcmp hd h hc k
    | exact s_dup hd h hc k
    | exact s_pop hd h hc k
    | exact s_dup2 hd h hc k
    | exact s_iaload hd h hc k
    | exact s_iastore hd h hc k
    | exact s_aaload hd h hc k
    | exact s_caload hd h hc k
    | exact s_iload_n hd h hc k
    | exact s_aload_n hd h hc k
    | exact s_lload_n hd h hc k
    | exact s_iload hd h hc k
    | exact s_aload hd h hc k
    | exact s_lload hd h hc k
    | exact s_istore_n hd (of_decide_eq_true hok) h hc k
    | exact s_istore hd (of_decide_eq_true hok) h hc k
    | exact s_astore_n hd (of_decide_eq_true hok) h hc k
    | exact s_astore hd (of_decide_eq_true hok) h hc k
    | exact s_lstore hd (of_decide_eq_true hok) h hc k
    | exact s_iinc hd (of_decide_eq_true (Bool.and_eq_true _ _ ▸ hok).1) (of_decide_eq_true (Bool.and_eq_true _ _ ▸ hok).2) h hc k
    | exact s_getfield ho hd hok h hc k
    | (cases h; exact g_iconst hd (of_decide_eq_true hok) k)
    | (cases h; exact g_bipush hd (of_decide_eq_true hok) k)
    | (cases h; exact g_sipush hd (of_decide_eq_true hok) k)
    | (cases h; exact g_lconst hd k)
    | (cases h; exact g_ldc hd (by rw [ho]; exact CT_ok hok) k)
    | (cases h
       have h2 := of_decide_eq_true hok
       obtain ⟨rfl, rfl⟩ := h2
       exact g_ldc2 hd (by rw [ho]; exact CL_ok) k)
    | (cases h; exact g_goto hd (of_decide_eq_true hok) k)
    | (have h2 := of_decide_eq_true hok
       cases h
       obtain ⟨rfl, h3⟩ := h2
       rcases h3 with ⟨rfl, rfl⟩ | ⟨rfl, rfl⟩
       · exact g_letters hd (by rw [ho]; exact S_6_155) k
       · exact g_equal hd (by rw [ho]; exact S_6_206) k)
    | (simp only [Bool.and_eq_true] at hok
       exact s_putfield ho hd hok.1.1 (of_decide_eq_true hok.1.2) (of_decide_eq_true hok.2) h hc k)
    | cases h
theorem evs_sound (ho : q.y.cls = Rn o) : ∀ (xs : List AI) {S S' : AS} {c : Prop}, okL q o S.1 xs = true → evs xs S = some (c, S') → c → GA q S' Post → GA q S Post
  | [], S, S', c, _, h, _, k => by
    cases h
    exact k
  | x :: xs, S, S', c, hok, h, hc, k => by
    unfold evs at h
    split at h
    · next c1 S1 e1 =>
      split at h
      · next c2 S2 e2 =>
        cases h
        unfold okL at hok
        rw [Bool.and_eq_true] at hok
        refine ev1_sound ho hok.1 e1 hc.1 (evs_sound ho xs (c := c2) ?_ e2 hc.2 k)
        rw [ev1_pc e1]
        exact hok.2
      · cases h
    · cases h
/-- A BLOCK: from here to there, if its conditions hold -/
theorem blk (o : Nat) (xs : List AI) (ks : List Nat) {pc : Nat} {ls : List (Option Value)} {st : List Value} {M : Mem} (hok : okL q o pc xs = true) (ho : q.y.cls = Rn o) {c : Prop} {pc' : Nat} {ls' : List (Option Value)} {st' : List Value} {M' : Mem} (h : evs xs (pc, ls, st, M, ks) = some (c, pc', ls', st', M', [])) (hc : c) (k : G q pc' ls' st' M' Post) : G q pc ls st M Post :=
  evs_sound (S := (pc, ls, st, M, ks)) (S' := (pc', ls', st', M', [])) ho xs hok h hc k
end EW
