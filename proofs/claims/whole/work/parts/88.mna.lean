/-! new int[N][K] -/
theorem out_arr (c : ClassId) (N h0 : Nat) : ∀ i : Nat, Jvm.Free.Multi.outerC c N h0 i = arrV c N (fun j => va_rf (if j < i then some (h0 + 1 + j) else none)) := by
  intro i
  induction i with
  | zero =>
    show ({ cls := c, slots := Array.replicate N .null, vm := .none } : Cell) = _
    rw [arrV_new]
    exact congrArg (arrV c N) (funext fun j => by rw [if_neg (Nat.not_lt_zero j)]; rfl)
  | succ i ih =>
    show (Jvm.Free.Multi.outerC c N h0 i).setSlot i (.ref (h0 + 1 + i)) = _
    rw [ih, arrV_store]
    refine congrArg (arrV c N) (funext fun j => ?_)
    by_cases e : j = i
    · subst e
      rw [if_pos (Nat.lt_succ_self j)]
      simp [updV, va_rf]
    · by_cases h : j < i
      · rw [if_pos (by omega)]
        simp [updV, e, h]
      · rw [if_neg (by omega)]
        simp [updV, e, h]
theorem mna_row : MnaRow := by
  intro D κ A q mc ms sz' pc sz k n ws' ws ws2 lv st index N K x y hcl hd hx0 hy0 hN hK hN1 hK1 hc hs hw kk
  intro p l e s m args below meth c H locs la C hz hP hD hA hS hl
  subst hN hK hw hz
  have hts : ∀ w ∈ TB, w.before args s = true := fun w h => C.2.2.2.2.2.1 w (List.mem_cons_of_mem _ h)
  have hKN := C.2.2.2.2.2.2.2.2
  have hcl2 : (Cond.classLink q.y.cls index ("[" ++ (FieldType.array .int).toString)).before args s = true := by
    rw [show "[" ++ (FieldType.array .int).toString = "[[I" by decide +kernel]
    exact hts _ hcl
  have hov : (Cond.arrayOver (.array .int)).before args s = true := hKN.2.2.1
  intro T hT Xs
  obtain ⟨vm₁, cA, comp, -, fA, fC, X', step⟩ := Xs.multianewarray2 (ty := .int) C.1 C.2.2.2.2.1 hcl2 hov (hts _ tb_arr) (g := F0 m pc la (.int y :: .int x :: st)) rfl (by rw [C.2.1]; exact hd) rfl hx0 hy0 (by omega) (by show _ * 4 ≤ _; omega) (by omega) rfl rfl hc hs
  have eA : cA = κ.2.2 := Option.some.inj (fA.symm.trans (hKN.1.2 2 _ rfl).2)
  have eC : comp = κ.1 := Option.some.inj (fC.symm.trans (hKN.1.2 0 _ rfl).2)
  subst eA eC
  generalize hF : Jvm.Free.Multi.fill (T.setVm vm₁) κ.2.2 κ.1 x.toNatClampNeg y.toNatClampNeg (defaultValue .int) x.toNatClampNeg = F at X' step
  have hTh : (T.setVm vm₁).heap = H := hT
  obtain ⟨f1, f2, -, -⟩ := Jvm.Free.Multi.fill_facts (T.setVm vm₁) κ.2.2 κ.1 x.toNatClampNeg y.toNatClampNeg (defaultValue .int) x.toNatClampNeg
  rw [hF, hTh] at f1 f2
  have hold : ∀ a : Nat, a < H.size → F.heap[a]? = H[a]? := fun a ha => by
    have := Jvm.Free.Multi.fill_old (T.setVm vm₁) κ.2.2 κ.1 x.toNatClampNeg y.toNatClampNeg (defaultValue .int) (a := a) (by rw [hTh]; exact ha) x.toNatClampNeg
    rw [hF, hTh] at this
    exact this
  have hrow : ∀ j : Nat, j < x.toNatClampNeg → F.heap[H.size + 1 + j]? = some (arrV κ.1 y.toNatClampNeg (fun _ => .int 0)) := fun j hj => by
    have := Jvm.Free.Multi.fill_inner (T.setVm vm₁) κ.2.2 κ.1 x.toNatClampNeg y.toNatClampNeg (defaultValue .int) x.toNatClampNeg j hj
    rw [hF, hTh] at this
    rw [this]
    exact congrArg some (arrV_new κ.1 y.toNatClampNeg (.int 0))
  rw [out_arr] at f2
  have hget : ∀ (j : Nat) (z : Nat × va_E), (((H.size, Sum.inl (κ.2.2, x.toNatClampNeg, .inr (.inr (.inr (.inr (fun i => if i < x.toNatClampNeg then some (H.size + 1 + i) else none)))))) :: (List.range x.toNatClampNeg).map (fun i => (H.size + 1 + i, Sum.inl (κ.1, y.toNatClampNeg, .inl (fun _ => 0))))) : va_W)[j]? = some z → z.1 = H.size + j ∧ va_at D classes z F.heap := by
    intro j z hj
    cases j with
    | zero =>
      cases hj
      exact ⟨rfl, f2⟩
    | succ j =>
      rw [List.getElem?_cons_succ, List.getElem?_map] at hj
      by_cases h9 : j < x.toNatClampNeg
      · rw [List.getElem?_range h9] at hj
        cases hj
        exact ⟨by show H.size + 1 + j = H.size + (j + 1); omega, hrow j h9⟩
      · rw [show (List.range x.toNatClampNeg)[j]? = none from List.getElem?_eq_none (by rw [List.length_range]; omega)] at hj
        cases hj
  have hP2 := (hP.kept (fun k9 z hz => hold z.1 ((hP k9 z hz).lt))).app (fun j z hj => (hget j z hj).2)
  have hD2 := hD.app (A := A) ⟨fun i j u v hi hj huv => by have a := (hget i u hi).1; have b := (hget j v hj).1; omega, fun j z hj => hA _ (by rw [(hget j z hj).1]; have := hS.1; omega)⟩ (fun i j u v hi hj huv => by have a := (hP i u hi).lt; have b := (hget j v hj).1; omega)
  obtain ⟨t, a1, b1⟩ := kk p l e s m args below meth c F.heap _ la C f1 hP2 hD2 hA ⟨by rw [f1]; have := hS.1; omega, fun a h1 h2 => (hold a (Nat.lt_of_lt_of_le h1 hS.1)).trans (hS.2.1 a h1 h2), fun q hq => by
    rcases List.mem_append.mp hq with h | h
    · exact hS.2.2 q h
    · obtain ⟨j, -, rfl⟩ := List.mem_map.mp h
      exact hA _ (by show s.heap.size ≤ T.heap.size; rw [hT]; exact hS.1)⟩ hl F rfl X'
  refine ⟨t, step t ?_, b1⟩
  have e : T.heap.size = H.size := by rw [hT]
  rw [e]
  exact a1
