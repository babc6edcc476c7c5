/-! a method's beginning and end; calls -/
def ls0 (av : List Value) (n : Nat) : List (Option Value) := av.map some ++ List.replicate (n - av.length) none
theorem largs_in (vs : List Value) (h : ∀ v ∈ vs, v.category = 1) : ∀ (i j : Nat) (v : Value), vs[j]? = some v → (i + j, v) ∈ lv_args i vs := by
  induction vs with
  | nil => intro i j v hj; simp at hj
  | cons a l ih =>
    intro i j v hj
    unfold lv_args
    rw [if_neg (by rw [h a List.mem_cons_self]; decide)]
    cases j with
    | zero =>
      simp at hj
      subst hj
      exact List.mem_cons_self
    | succ j =>
      simp at hj
      have := ih (fun v hv => h v (List.mem_cons_of_mem _ hv)) (i + 1) j v hj
      rw [show i + (j + 1) = i + 1 + j by omega]
      exact List.mem_cons_of_mem _ this
theorem lgsl_len (vs : List Value) (h : ∀ v ∈ vs, v.category = 1) : (lg_sl vs).length = vs.length := by
  induction vs with
  | nil => rfl
  | cons a l ih =>
    unfold lg_sl at ih ⊢
    rw [List.flatMap_cons, if_neg (by rw [h a List.mem_cons_self]; decide), List.length_append, ih (fun v hv => h v (List.mem_cons_of_mem _ hv))]
    simp
    omega
/-- A CONTRACT out of a walk from the entry -/
theorem Spec.of {q : MI} {av : List Value} {M : Mem} {Post : Option Value → Mem → Prop} (hy : plainName q.y.cls = true) (hc : ∀ v ∈ av, v.category = 1) (hn : av.length ≤ q.ml) (k : G q 0 (ls0 av q.ml) [] M Post) : Spec q av M Post := by
  intro l D κ ad
  refine Met.ofW (cc := q.cc) (maxL := q.ml) (ret := q.rt) hy rfl ?_
  intro p e s m args below meth c s₁ B hml hv
  obtain ⟨rfl, hW, hK⟩ := hv
  have hts := atoms_spec (ws := q.ws) B.pre
  have hown : s.vm.findClass q.y.cls = some m.cls := findClass_of_methodNamed B.named
  have hc' : ∀ v ∈ av.map (cv ad), v.category = 1 := by
    intro v hv
    obtain ⟨w, hw, rfl⟩ := List.mem_map.mp hv
    rw [cv_cat]
    exact hc w hw
  have hl := lv_entry (av.map (cv ad)) (n := q.ml) (by rw [lgsl_len _ hc', List.length_map]; exact hn)
  rw [lg_entry_eq]
  refine k D κ ad p l e s m _ below meth c s.heap [] _ ⟨B.exec, B.bytes, B.returns, hml, hown, hts, B.notSynchronized, hK⟩ hW va_S.rf (lvs.of hl (fun j v hj => ?_))
  unfold ls0 at hj
  rw [List.getElem?_append] at hj
  split at hj
  · have h2 : av[j]? = some v := by
      rw [List.getElem?_map] at hj
      cases h3 : av[j]? with
      | none => rw [h3] at hj; cases hj
      | some w => rw [h3] at hj; cases hj; rfl
    have := largs_in (av.map (cv ad)) hc' 0 j (cv ad v) (by rw [List.getElem?_map, h2]; rfl)
    rwa [Nat.zero_add] at this
  · exfalso
    rw [List.getElem?_replicate] at hj
    split at hj <;> cases hj
theorem Spec.weaken {q : MI} {av : List Value} {M : Mem} {Post Post' : Option Value → Mem → Prop} (h : Spec q av M Post) (hp : ∀ r M', Post r M' → Post' r M') : Spec q av M Post' := by
  intro l D κ ad p e ha hc hk s m args below hf happ hpre hK
  obtain ⟨k, o, h1, h2, h3, hq, hL⟩ := h l D κ ad p e ha hc hk s m args below hf happ hpre hK
  obtain ⟨⟨r, M', e1, e2, e3⟩, e4⟩ := hq
  exact ⟨k, o, h1, h2, h3, ⟨⟨r, M', e1, hp r M' e2, e3⟩, e4⟩, hL⟩
theorem Kx.calling {D : va_G} {κ : ClassId × ClassId × ClassId} {ad : Nat → Nat} {U : State} (g : JFrame) (mk : MethodId) (a : Array Value) (h : Kx D κ ad U) : Kx D κ ad (U.calling g mk a) :=
  ⟨va_K.moved (u := U) (U := U.calling g mk a) (Vm.Alike.refl U.vm) h.1, h.2.1, va_Z.moved (u := U) (U := U.calling g mk a) (Vm.Alike.refl U.vm) h.2.2.1, va_Z.moved (u := U) (U := U.calling g mk a) (Vm.Alike.refl U.vm) h.2.2.2.1, va_T.moved (u := U) (U := U.calling g mk a) (Vm.Alike.refl U.vm) h.2.2.2.2.1, va_T.moved (u := U) (U := U.calling g mk a) (Vm.Alike.refl U.vm) h.2.2.2.2.2.1, va_Nw.same rfl rfl h.2.2.2.2.2.2.1, va_Nw.same rfl rfl h.2.2.2.2.2.2.2.1, va_Nw.same rfl rfl h.2.2.2.2.2.2.2.2⟩
section GC
variable {q : MI} {pc : Nat} {ls : List (Option Value)} {st : List Value} {M : Mem} {Post : Option Value → Mem → Prop}
theorem g_ireturn {x : Int32} {ty : FieldType} (hd : decode q.cc pc = .ok (.ireturn, 1)) (hr : q.rt = some ty) (hn : narrow ty (.int x) = .int x) (hp : Post (some (.int x)) M) : G q pc ls [.int x] M Post := by
  intro D κ ad p l e s m args below meth c H locs la C hW hS hl
  exact W.zret (ty := ty) C.1 C.2.1 (C.2.2.1.trans hr) hn (fun t ht hw => ⟨⟨some (.int x), M, rfl, hp, by rw [ht]; exact hW⟩, hS.F ht⟩) hS.2.2 hd C.2.2.2.2.2.2.1
theorem g_return (hd : decode q.cc pc = .ok (.return_, 1)) (hr : q.rt = none) (hp : Post none M) : G q pc ls [] M Post := by
  intro D κ ad p l e s m args below meth c H locs la C hW hS hl
  exact W.vret C.1 C.2.1 (C.2.2.1.trans hr) (fun t ht hw => ⟨⟨none, M, rfl, hp, by rw [ht]; exact hW⟩, hS.F ht⟩) hS.2.2 hd C.2.2.2.2.2.2.1
/-- behind a call: the memory and what it answered -/
theorem call_on {D : va_G} {κ : ClassId × ClassId × ClassId} {ad : Nat → Nat} {p : Program} {l : Launch} {e : Env} {R : Room} {s : State} {m : MethodId} {args a : Array Value} {below : List Frame} {meth : Method} {c : Code} {H : Heap} {locs : List Loc} {Q : State → Prop} {g : JFrame} {rest : List Value} {P' : Option Value → Mem → Prop}
    (hr : CallRun p l e R s m args below meth c H locs 0 0 0 0 g rest (Qx D κ ad P' a) (ownA ad)) (hS : va_S (ownA ad) s.heap H locs)
    (kk : ∀ (r : Option Value) (M' : Mem) (H1 : Heap) (locs1 : List Loc), P' r M' → Wd D κ ad M' H1 → va_S (ownA ad) s.heap H1 locs1 → W p l e R s m args below meth c H1 locs1 0 0 Q { g with pc := g.pc + 3, stack := (r.map (cv ad)).toList ++ rest }) : W p l e R s m args below meth c H locs 0 0 Q g := by
  intro T hT X
  obtain ⟨v, st₀, t, T', L, h0, X', hL, e1, ⟨⟨r, M', hv, hp, hW⟩, hF⟩, sg⟩ := hr T hT X
  cases hv
  obtain ⟨t2, a1, b1⟩ := kk r M' t.heap (locs ++ L) hp hW ⟨Nat.le_trans hS.1 (by rw [← h0]; exact hF.1), fun x h1 h2 => by rw [hF.2 x (by rw [h0]; exact Nat.lt_of_lt_of_le h1 hS.1) h2, h0]; exact hS.2.1 x h1 h2, fun x hx => (List.mem_append.mp hx).elim (hS.2.2 x) (hL x)⟩ T' e1 X'
  exact ⟨t2, sg t2 a1, b1⟩
theorem pre_of {D : va_G} {κ : ClassId × ClassId × ClassId} {ad : Nat → Nat} {s : State} {H : Heap} {locs : List Loc} {av : List Value} (hW : Wd D κ ad M H) (hS : va_S (ownA ad) s.heap H locs) (hK : Kx D κ ad s) :
    PreS s H (va_Pc (av.map (cv ad)) (fun U => Wd D κ ad M U.heap ∧ Kx D κ ad U)) (av.map (cv ad)) :=
  ⟨fun a U g mk h => ⟨h.1, h.2.1, h.2.2.calling g mk a⟩, fun U hU hw => ⟨rfl, by rw [hU]; exact hW, hK.moved hw (fun a h1 h2 => by rw [hU]; exact hS.2.1 a h1 h2)⟩⟩
/-- what a caller must look up of its callee, once for the pair -/
def okV (q q' : MI) (index n : Nat) : Prop := Cond.methodLink q.y.cls index q'.y ∈ TB ∧ Cond.instanceMethod q'.y ∈ TB ∧ Cond.selects q'.y.cls q'.y q'.y ∈ TB ∧ Cond.initialized q'.y.cls ∈ TB ∧ Cond.code q'.y q'.cc q'.ml q'.rt ∈ TB ∧
  (q'.y.cls ≠ "java/lang/invoke/MethodHandle" ∧ q'.y.cls ≠ "java/lang/invoke/VarHandle" ∧ (parseMethodDescriptor q'.y.desc).map (fun d => d.parameters.length) = some n) ∧ q'.rm.frames + 1 ≤ q.rm.frames ∧ 8 + (q'.ml + 11) + q'.rm.locals ≤ q.rm.locals
def okS (q q' : MI) (index n : Nat) : Prop := Cond.methodLink q.y.cls index q'.y ∈ TB ∧ Cond.static q'.y ∈ TB ∧ Cond.initialized q'.y.cls ∈ TB ∧ Cond.code q'.y q'.cc q'.ml q'.rt ∈ TB ∧
  (q'.y.cls ≠ "java/lang/invoke/MethodHandle" ∧ q'.y.cls ≠ "java/lang/invoke/VarHandle" ∧ (parseMethodDescriptor q'.y.desc).map (fun d => d.parameters.length) = some n) ∧ q'.rm.frames + 1 ≤ q.rm.frames ∧ 8 + (q'.ml + 11) + q'.rm.locals ≤ q.rm.locals
theorem ws_good {q q' : MI} (h : Cond.code q'.y q'.cc q'.ml q'.rt ∈ TB) : GoodIn q.ws q'.ws := by
  intro w hw
  have hb : w ∈ TB := by
    rcases List.mem_cons.mp hw with rfl | hw
    · exact h
    · exact hw
  exact ⟨List.mem_cons_of_mem _ hb, good_of_word (List.mem_filter.mp hb).2⟩
theorem callB {q q' : MI} {index n : Nat} {s : State} {args : Array Value} (hts : ∀ w ∈ q.ws, w.before args s = true) (hcode : Cond.code q'.y q'.cc q'.ml q'.rt ∈ TB) (hini : Cond.initialized q'.y.cls ∈ TB) (hl : Cond.methodLink q.y.cls index q'.y ∈ TB) (hd : q'.y.cls ≠ "java/lang/invoke/MethodHandle" ∧ q'.y.cls ≠ "java/lang/invoke/VarHandle" ∧ (parseMethodDescriptor q'.y.desc).map (fun d => d.parameters.length) = some n) (hR : q'.rm.frames + 1 ≤ q.rm.frames ∧ 8 + (q'.ml + 11) + q'.rm.locals ≤ q.rm.locals) : CallB q.rm s args q.y.cls index q'.y q'.cc q'.ml q'.rt q'.ws q'.rm 0 0 n :=
  callB_of n hts (ws_good hcode) rfl rfl rfl (hts _ (List.mem_cons_of_mem _ hini)) (hts _ (List.mem_cons_of_mem _ hl)) hd hR
theorem g_callV {q' : MI} {index n t c : Nat} {As : List Value} {P' : Option Value → Mem → Prop} (hS' : Spec q' (.ref t :: As) M P') (ok : okV q q' index n) (hd : decode q.cc pc = .ok (.invokevirtual index, 3)) (hn : As.length = n) (hk : kd t = c) (hc : c < 8) (hcl : Rn c = q'.y.cls) (hr : (st.map fun v => v.category).sum ≤ 8)
    (kk : ∀ (r : Option Value) (M' : Mem), P' r M' → G q (pc + 3) ls (r.toList ++ st) M' Post) {st' : List Value} (hst : st' = As.reverse ++ .ref t :: st) : G q pc ls st' M Post := by
  intro D κ ad p l e s m args below meth cd H locs la C hW hS hl
  obtain ⟨hx, hb, hrt, hml, hown, hts, hlk, hK⟩ := id C
  obtain ⟨o1, o2, o3, o4, o5, o6, o7⟩ := ok
  obtain ⟨h96, cell, q1, q2, q3, q4⟩ := obj_at hW hk hc
  obtain ⟨hSl, hfc, kC, hkC, hkind⟩ := hK.1.1 c _ (cls_at hc)
  have hpre := pre_of (av := .ref t :: As) hW hS hK
  have hrun := W.runV (p := p) (e := e) (below := below) (meth := meth) (H := H) (locs := locs) (cells := 0) (slots := 0) (As := As.map (cv ad)) (rest := st.map (cv ad)) (g := F0 m pc la (st'.map (cv ad))) (b := ad t) ⟨hx, hb, hml, hown, hts⟩ (hS' l D κ ad) (C := q'.y.cls) (n := n) ⟨callB hts o5 o4 o1 o6 o7, hts _ (List.mem_cons_of_mem _ o2), hts _ (List.mem_cons_of_mem _ o3)⟩
    ⟨hpre.1, ⟨cell, q1, by rw [q3]; rfl, by rw [q2, ← hcl]; exact hfc⟩, fun U hU hw => hpre.2 U hU hw⟩ rfl (by rw [List.length_map]; exact hn) hl.1 (by rw [hst]; simp [cv]) (lv_room (by rw [List.map_map]; rw [show ((fun v : Value => v.category) ∘ cv ad) = (fun v : Value => v.category) from funext fun v => cv_cat ad v]; exact hr)) hd ⟨Nat.le_refl 0, Nat.le_refl 0⟩
  refine call_on hrun hS (fun r M' H1 locs1 hp hW1 hS1 => ?_)
  have := kk r M' hp D κ ad p l e s m args below meth cd H1 locs1 la C hW1 hS1 hl
  have e : (r.toList ++ st).map (cv ad) = (r.map (cv ad)).toList ++ st.map (cv ad) := by cases r <;> simp
  rw [e] at this
  exact this
theorem g_callS {q' : MI} {index n : Nat} {As : List Value} {P' : Option Value → Mem → Prop} (hS' : Spec q' As M P') (ok : okS q q' index n) (hd : decode q.cc pc = .ok (.invokestatic index, 3)) (hn : As.length = n) (hr : (st.map fun v => v.category).sum ≤ 8)
    (kk : ∀ (r : Option Value) (M' : Mem), P' r M' → G q (pc + 3) ls (r.toList ++ st) M' Post) {st' : List Value} (hst : st' = As.reverse ++ st) : G q pc ls st' M Post := by
  intro D κ ad p l e s m args below meth cd H locs la C hW hS hl
  obtain ⟨hx, hb, hrt, hml, hown, hts, hlk, hK⟩ := id C
  obtain ⟨o1, o2, o4, o5, o6, o7⟩ := ok
  have hpre := pre_of (av := As) hW hS hK
  have hrun := W.runS (p := p) (e := e) (below := below) (meth := meth) (H := H) (locs := locs) (cells := 0) (slots := 0) (As := As.map (cv ad)) (rest := st.map (cv ad)) (g := F0 m pc la (st'.map (cv ad))) ⟨hx, hb, hml, hown, hts⟩ (hS' l D κ ad) (n := n) ⟨callB hts o5 o4 o1 o6 o7, hts _ (List.mem_cons_of_mem _ o2)⟩
    hpre rfl (by rw [List.length_map]; exact hn) hl.1 (by rw [hst]; simp) (lv_room (by rw [List.map_map]; rw [show ((fun v : Value => v.category) ∘ cv ad) = (fun v : Value => v.category) from funext fun v => cv_cat ad v]; exact hr)) hd ⟨Nat.le_refl 0, Nat.le_refl 0⟩
  refine call_on hrun hS (fun r M' H1 locs1 hp hW1 hS1 => ?_)
  have := kk r M' hp D κ ad p l e s m args below meth cd H1 locs1 la C hW1 hS1 hl
  have e : (r.toList ++ st).map (cv ad) = (r.map (cv ad)).toList ++ st.map (cv ad) := by cases r <;> simp
  rw [e] at this
  exact this
/-- holds of a nest mate -/
theorem g_callN {q' : MI} {index n : Nat} {As : List Value} {P' : Option Value → Mem → Prop} (hS' : Spec q' As M P') (hy : q'.y = yX6_holds) (hlk : (q.y.cls = RX4 ∧ index = 28) ∨ (q.y.cls = RX3 ∧ index = 28) ∨ (q.y.cls = RX5 ∧ index = 83)) (ok : Cond.static q'.y ∈ TB ∧ Cond.initialized q'.y.cls ∈ TB ∧ Cond.code q'.y q'.cc q'.ml q'.rt ∈ TB ∧ (q'.y.cls ≠ "java/lang/invoke/MethodHandle" ∧ q'.y.cls ≠ "java/lang/invoke/VarHandle" ∧ (parseMethodDescriptor q'.y.desc).map (fun d => d.parameters.length) = some n) ∧ q'.rm.frames + 1 ≤ q.rm.frames ∧ 8 + (q'.ml + 11) + q'.rm.locals ≤ q.rm.locals) (hd : decode q.cc pc = .ok (.invokestatic index, 3)) (hn : As.length = n) (hr : (st.map fun v => v.category).sum ≤ 8)
    (kk : ∀ (r : Option Value) (M' : Mem), P' r M' → G q (pc + 3) ls (r.toList ++ st) M' Post) {st' : List Value} (hst : st' = As.reverse ++ st) : G q pc ls st' M Post := by
  intro D κ ad p l e s m args below meth cd H locs la C hW hS hl
  obtain ⟨hx, hb, hrt, hml, hown, hts, hlk0, hK⟩ := id C
  obtain ⟨o2, o4, o5, o6, o7⟩ := ok
  have hpre := pre_of (av := As) hW hS hK
  have hN : va_Nw (.methodLinkNest q.y.cls index q'.y RX6) s := by
    rw [hy]
    rcases hlk with ⟨e1, e2⟩ | ⟨e1, e2⟩ | ⟨e1, e2⟩ <;> rw [e1, e2]
    · exact hK.2.2.2.2.2.2.1
    · exact hK.2.2.2.2.2.2.2.1
    · exact hK.2.2.2.2.2.2.2.2
  have hrun := va_runSN (p := p) (e := e) (below := below) (meth := meth) (H := H) (locs := locs) (cells := 0) (slots := 0) (As := As.map (cv ad)) (rest := st.map (cv ad)) (g := F0 m pc la (st'.map (cv ad))) ⟨hx, hb, hml, hown, hts⟩ (hS' l D κ ad) (n := n) (host := RX6) ⟨va_cnB n hts (ws_good o5) rfl rfl rfl hN (hts _ (List.mem_cons_of_mem _ o4)) o6 o7, hts _ (List.mem_cons_of_mem _ o2), trivial⟩
    hpre rfl (by rw [List.length_map]; exact hn) hl.1 (by rw [hst]; simp) (lv_room (by rw [List.map_map]; rw [show ((fun v : Value => v.category) ∘ cv ad) = (fun v : Value => v.category) from funext fun v => cv_cat ad v]; exact hr)) hd ⟨Nat.le_refl 0, Nat.le_refl 0⟩
  refine call_on hrun.run hS (fun r M' H1 locs1 hp hW1 hS1 => ?_)
  have := kk r M' hp D κ ad p l e s m args below meth cd H1 locs1 la C hW1 hS1 hl
  have e : (r.toList ++ st).map (cv ad) = (r.map (cv ad)).toList ++ st.map (cv ad) := by cases r <;> simp
  rw [e] at this
  exact this
end GC
