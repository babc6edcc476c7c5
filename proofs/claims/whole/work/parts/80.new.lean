/-! CONSTRUCTORS: a judgement over the cells made so far, and its rows -/
theorem tb_arr : Cond.arrayClass .int ∈ TB := TB_in (by decide +kernel) (by decide +kernel)
theorem tb_oinit : Cond.instanceMethod objectInit ∈ TB ∧ Cond.code objectInit ⟨#[0xb1]⟩ 1 none ∈ TB := ⟨TB_in (by decide +kernel) (by decide +kernel), TB_in (by decide +kernel) (by decide +kernel)⟩
/-- the room of a constructor that makes mc cells with ms slots -/
def rmN (q : MI) (mc ms : Nat) : Room := { frames := q.2.2.2.2.1, cells := mc, slots := ms, locals := q.2.2.2.2.2 }
def AOA (U : State) : Prop := (Cond.arrayOver (.array .int)).before #[] U = true
theorem AOA.moved {u U : State} (hvm : u.vm.Alike U.vm) (h : AOA u) : AOA U := by
  have e1 : ∀ x, U.vm.findClass x = u.vm.findClass x := fun x => by rw [hvm.findClass]
  have e2 : ∀ comp : ClassId, (U.vm.classes.findIdx? fun (x : Class) => match x.kind with | .array component _ => component == comp | _ => false) = (u.vm.classes.findIdx? fun (x : Class) => match x.kind with | .array component _ => component == comp | _ => false) := fun comp => by
    have hb : U.vm.bare = u.vm.bare := by first | exact hvm.bare_eq | exact hvm.bare_eq.symm
    have t1 := va_idx_bare U.vm comp
    have t2 := va_idx_bare u.vm comp
    rw [hb] at t1
    exact t1.symm.trans t2
  have e3 : ∀ c : Nat, (U.vm.classes[c]?).map (fun k : Class => k.kind) = (u.vm.classes[c]?).map (fun k : Class => k.kind) := fun c => by
    rw [← Array.getElem?_map, ← Array.getElem?_map]
    have hb : U.vm.bare.classes = u.vm.bare.classes := by first | rw [hvm.bare_eq] | rw [← hvm.bare_eq]
    have hm : ∀ vm : Vm, vm.classes.map (fun k : Class => k.kind) = vm.bare.classes.map (fun k : Class => k.kind) := fun vm => by
      simp only [Vm.bare, Array.map_map]
      rfl
    rw [hm, hm u.vm, hb]
  have e5 : ∀ (o o' : Option Nat) (F F' : Nat → Option Bool), o = o' → (∀ c, F c = F' c) → o.bind F = o'.bind F' := by
    intro o o' F F' ho hF
    subst ho
    cases o with
    | none => rfl
    | some c => exact hF c
  unfold AOA Cond.before Cond.holds at *
  simp only [Cond.value] at h ⊢
  rw [e1]
  cases h1 : u.vm.findClass (FieldType.array .int).toString with
  | none => rw [h1] at h; exact h
  | some comp =>
    rw [h1] at h
    rw [Option.bind_some] at h ⊢
    refine Eq.trans (congrArg (fun z : Option Bool => (z == some true)) (e5 _ _ _ _ (e2 comp) (fun c => ?_))) h
    have e4 := e3 c
    rw [e1]
    cases hU : U.vm.classes[c]? with
    | none =>
      cases hu : u.vm.classes[c]? with
      | none => rfl
      | some k => rw [hU, hu] at e4; cases e4
    | some k' =>
      cases hu : u.vm.classes[c]? with
      | none => rw [hU, hu] at e4; cases e4
      | some k =>
        rw [hU, hu] at e4
        have e6 : k'.kind = k.kind := Option.some.inj e4
        rw [Option.map_some, Option.map_some, e6]
/-- the tables, with the arrays that can be made -/
def KN (D : va_G) (κ : ClassId × ClassId × ClassId) (U : State) : Prop := va_K D classes (tysA κ) U ∧ va_AO RX2 U ∧ AOA U ∧ va_Nw (.methodLinkNest RX6 24 yX0_init RX6) U ∧ va_Nw (.methodLinkNest RX1 11 yX4_init RX6) U ∧ va_Nw (.methodLinkNest RX6 40 yX5_init RX6) U
theorem KN.moved {D : va_G} {κ : ClassId × ClassId × ClassId} {u U : State} (hW : u.WarmedH U.vm) (h : KN D κ u) : KN D κ U := ⟨va_K.moved hW.alike h.1, va_AO.moved hW.alike h.2.1, AOA.moved hW.alike h.2.2.1, va_Nw.warmM hW h.2.2.2.1, va_Nw.warmM hW h.2.2.2.2.1, va_Nw.warmM hW h.2.2.2.2.2⟩
theorem KN.calling {D : va_G} {κ : ClassId × ClassId × ClassId} {U : State} (g : JFrame) (mk : MethodId) (a : Array Value) (h : KN D κ U) : KN D κ (U.calling g mk a) :=
  ⟨va_K.moved (u := U) (U := U.calling g mk a) (Vm.Alike.refl U.vm) h.1, va_AO.moved (u := U) (U := U.calling g mk a) (Vm.Alike.refl U.vm) h.2.1, AOA.moved (u := U) (U := U.calling g mk a) (Vm.Alike.refl U.vm) h.2.2.1, va_Nw.same rfl rfl h.2.2.2.1, va_Nw.same rfl rfl h.2.2.2.2.1, va_Nw.same rfl rfl h.2.2.2.2.2⟩
def CN (q : MI) (D : va_G) (κ : ClassId × ClassId × ClassId) (p : Program) (s : State) (m : MethodId) (args : Array Value) (meth : Method) (c : Code) : Prop :=
  p.tables.exec = Jvm.exec ∧ c.code = q.cc ∧ meth.sig.returnType = q.rt ∧ c.maxLocals = q.ml ∧ s.vm.findClass q.y.cls = some m.cls ∧ (∀ w ∈ q.ws, w.before args s = true) ∧ meth.locks = false ∧ meth.name = "<init>" ∧ KN D κ s
/-- at the end: so large a heap, these cells -/
def QN (D : va_G) (κ : ClassId × ClassId × ClassId) (A : Nat → Prop) (ws' : va_W) (sz' : Nat) : Array Value → State → Outcome → State → Prop := va_Qv (S := Unit) (fun _ => True) (fun _ t => t.heap.size = sz' ∧ va_P D classes ws' t.heap ∧ KN D κ t ∧ va_D A ws') A
def GN (D : va_G) (κ : ClassId × ClassId × ClassId) (A : Nat → Prop) (q : MI) (mc ms : Nat) (ws' : va_W) (sz' : Nat) (pc : Nat) (lv : List (Nat × Value)) (st : List Value) (ws : va_W) (sz k n : Nat) : Prop :=
  ∀ (p : Program) (l : Launch) (e : Env) (s : State) (m : MethodId) (args : Array Value) (below : List Frame) (meth : Method) (c : Code) (H : Heap) (locs : List Loc) (la : Array Slot),
    CN q D κ p s m args meth c → H.size = sz → va_P D classes ws H → va_D A ws → (∀ x, s.heap.size ≤ x → A x) → va_S A s.heap H locs → lv_has la q.ml lv →
    W p l e (rmN q mc ms) s m args below meth c H locs k n (MQ below (QN D κ A ws' sz') args s mc ms A) (F0 m pc la st)
/-- a constructor's contract -/
def SpecN (D : va_G) (κ : ClassId × ClassId × ClassId) (q : MI) (mc ms : Nat) (av : List Value) (ws0 : va_W) (sz : Nat) (ws' : va_W) (sz' : Nat) : Prop := ∀ l : Launch, Met l q.y q.ws (rmN q mc ms) (va_Pc av (fun U => U.heap.size = sz ∧ va_P D classes ws0 U.heap ∧ KN D κ U ∧ va_D (fun _ => True) ws0)) (QN D κ (va_A ws0 sz) ws' sz') mc ms (va_A ws0 sz)
theorem SpecN.of {D : va_G} {κ : ClassId × ClassId × ClassId} {q : MI} {mc ms sz sz' : Nat} {av : List Value} {ws0 ws' : va_W} (hy : plainName q.y.cls = true) (hnm : q.y.name = "<init>") (hn : (lg_sl av).length ≤ q.ml) (k : GN D κ (va_A ws0 sz) q mc ms ws' sz' 0 (lv_args 0 av) [] ws0 sz 0 0) : SpecN D κ q mc ms av ws0 sz ws' sz' := by
  intro l
  refine Met.ofW (cc := q.cc) (maxL := q.ml) (ret := q.rt) hy rfl ?_
  intro p e s m args below meth c s₁ B hml hv
  obtain ⟨rfl, hsz, hP, hK, hD⟩ := hv
  have hts := atoms_spec (ws := q.ws) B.pre
  have hown : s.vm.findClass q.y.cls = some m.cls := findClass_of_methodNamed B.named
  have hin : meth.name = "<init>" := by rw [(name_of_methodNamed B.named B.method).1]; exact hnm
  have hl := lv_entry av (n := q.ml) hn
  rw [lg_entry_eq]
  exact k p l e s m _ below meth c s.heap [] _ ⟨B.exec, B.bytes, B.returns, hml, hown, hts, B.notSynchronized, hin, hK⟩ hsz hP (hD.self (sz := sz)) (fun x hx => Or.inr (by omega)) va_S.rf hl
section NR
variable {D : va_G} {κ : ClassId × ClassId × ClassId} {A : Nat → Prop} {q : MI} {mc ms sz' pc sz k n : Nat} {ws' ws : va_W} {lv : List (Nat × Value)} {st : List Value}
theorem n_aload {x : Nat} {j : Fin 4} (i : Nat) (hd : decode q.cc pc = .ok (.aload_n j, 1)) (hv : lv[i]? = some (j.val, .ref x)) (kk : GN D κ A q mc ms ws' sz' (pc + 1) lv (.ref x :: st) ws sz k n) : GN D κ A q mc ms ws' sz' pc lv st ws sz k n := by
  intro p l e s m args below meth c H locs la C hz hP hD hA hS hl
  exact lv_aload_n C.1 C.2.1 hd rfl (lv_at hl i hv) (kk p l e s m args below meth c H locs la C hz hP hD hA hS hl)
theorem n_iload {x : Int32} {j : Fin 4} (i : Nat) (hd : decode q.cc pc = .ok (.iload_n j, 1)) (hv : lv[i]? = some (j.val, .int x)) (kk : GN D κ A q mc ms ws' sz' (pc + 1) lv (.int x :: st) ws sz k n) : GN D κ A q mc ms ws' sz' pc lv st ws sz k n := by
  intro p l e s m args below meth c H locs la C hz hP hD hA hS hl
  exact lv_iload_n C.1 C.2.1 hd rfl (lv_at hl i hv) (kk p l e s m args below meth c H locs la C hz hP hD hA hS hl)
theorem n_iconst {x : Int} {v : Int32} (hd : decode q.cc pc = .ok (.iconst x, 1)) (hv : Int32.ofInt x = v) (kk : GN D κ A q mc ms ws' sz' (pc + 1) lv (.int v :: st) ws sz k n) : GN D κ A q mc ms ws' sz' pc lv st ws sz k n := by
  intro p l e s m args below meth c H locs la C hz hP hD hA hS hl
  exact lv_iconst C.1 C.2.1 hd hv (kk p l e s m args below meth c H locs la C hz hP hD hA hS hl)
theorem n_bipush {x : Int} {v : Int32} (hd : decode q.cc pc = .ok (.bipush x, 2)) (hv : (Int8.ofInt x).toInt32 = v) (kk : GN D κ A q mc ms ws' sz' (pc + 2) lv (.int v :: st) ws sz k n) : GN D κ A q mc ms ws' sz' pc lv st ws sz k n := by
  intro p l e s m args below meth c H locs la C hz hP hD hA hS hl
  exact lv_bipush C.1 C.2.1 hd hv (kk p l e s m args below meth c H locs la C hz hP hD hA hS hl)
theorem n_sipush {x : Int} {v : Int32} (hd : decode q.cc pc = .ok (.sipush x, 3)) (hv : (Int16.ofInt x).toInt32 = v) (kk : GN D κ A q mc ms ws' sz' (pc + 3) lv (.int v :: st) ws sz k n) : GN D κ A q mc ms ws' sz' pc lv st ws sz k n := by
  intro p l e s m args below meth c H locs la C hz hP hD hA hS hl
  exact lv_sipush C.1 C.2.1 hd hv (kk p l e s m args below meth c H locs la C hz hP hD hA hS hl)
theorem n_dup {v : Value} (hd : decode q.cc pc = .ok (.dup, 1)) (hv : v.category = 1) (kk : GN D κ A q mc ms ws' sz' (pc + 1) lv (v :: v :: st) ws sz k n) : GN D κ A q mc ms ws' sz' pc lv (v :: st) ws sz k n := by
  intro p l e s m args below meth c H locs la C hz hP hD hA hS hl
  exact lv_dup C.1 C.2.1 hd hv (kk p l e s m args below meth c H locs la C hz hP hD hA hS hl)
theorem n_idiv {x y : Int32} (hd : decode q.cc pc = .ok (.idiv, 1)) (hne : ¬ y = 0) (kk : GN D κ A q mc ms ws' sz' (pc + 1) lv (.int (x / y) :: st) ws sz k n) : GN D κ A q mc ms ws' sz' pc lv (.int y :: .int x :: st) ws sz k n := by
  intro p l e s m args below meth c H locs la C hz hP hD hA hS hl
  exact lv_idiv C.1 C.2.1 hd hne (kk p l e s m args below meth c H locs la C hz hP hD hA hS hl)
theorem n_irem {x y : Int32} (hd : decode q.cc pc = .ok (.irem, 1)) (hne : ¬ y = 0) (kk : GN D κ A q mc ms ws' sz' (pc + 1) lv (.int (x - x / y * y) :: st) ws sz k n) : GN D κ A q mc ms ws' sz' pc lv (.int y :: .int x :: st) ws sz k n := by
  intro p l e s m args below meth c H locs la C hz hP hD hA hS hl
  exact lv_irem C.1 C.2.1 hd hne (kk p l e s m args below meth c H locs la C hz hP hD hA hS hl)
theorem n_istore {x : Int32} {j : Fin 4} {lv' : List (Nat × Value)} (hd : decode q.cc pc = .ok (.istore_n j, 1)) (hn : j.val < q.ml) (he : (j.val, Value.int x) :: lv.filter (fun q => !(q.1 == j.val) && !(q.1 + 1 == j.val && q.2.category == 2)) = lv') (kk : GN D κ A q mc ms ws' sz' (pc + 1) lv' st ws sz k n) : GN D κ A q mc ms ws' sz' pc lv (.int x :: st) ws sz k n := by
  intro p l e s m args below meth c H locs la C hz hP hD hA hS hl
  exact lv_istore_n C.1 C.2.1 hd rfl hl hn rfl (fun la' h' => kk p l e s m args below meth c H locs la' C hz hP hD hA hS (by rw [← he]; exact h'))
theorem n_iinc {x : Int32} {j i : Nat} {d : Int} {v : Int32} {lv' : List (Nat × Value)} (hd : decode q.cc pc = .ok (.iinc j d, 3)) (hx : lv[i]? = some (j, .int x)) (hv : Int32.ofInt d = v) (hn : j < q.ml) (he : (j, Value.int (x + v)) :: lv.filter (fun q => !(q.1 == j) && !(q.1 + 1 == j && q.2.category == 2)) = lv') (kk : GN D κ A q mc ms ws' sz' (pc + 3) lv' st ws sz k n) : GN D κ A q mc ms ws' sz' pc lv st ws sz k n := by
  intro p l e s m args below meth c H locs la C hz hP hD hA hS hl
  exact lv_iinc C.1 C.2.1 hd hl hx (v := x + v) (by rw [hv]) hn rfl (fun la' h' => kk p l e s m args below meth c H locs la' C hz hP hD hA hS (by rw [← he]; exact h'))
theorem n_goto {off : Int} {tgt : Nat} (hd : decode q.cc pc = .ok (.goto off, 3)) (ht : (pc : Int) + off = (tgt : Int)) (kk : GN D κ A q mc ms ws' sz' tgt lv st ws sz k n) : GN D κ A q mc ms ws' sz' pc lv st ws sz k n := by
  intro p l e s m args below meth c H locs la C hz hP hD hA hS hl
  exact lv_goto C.1 C.2.1 hd ht (kk p l e s m args below meth c H locs la C hz hP hD hA hS hl)
/-- the branch is taken -/
theorem n_ge1 {x y : Int32} {off : Int} {tgt : Nat} (hd : decode q.cc pc = .ok (.if_icmp .ge off, 3)) (ht : (pc : Int) + off = (tgt : Int)) (hc : y ≤ x) (kk : GN D κ A q mc ms ws' sz' tgt lv st ws sz k n) : GN D κ A q mc ms ws' sz' pc lv (.int y :: .int x :: st) ws sz k n := by
  intro p l e s m args below meth c H locs la C hz hP hD hA hS hl
  exact lv_icmp_ge C.1 C.2.1 hd ht (fun _ => kk p l e s m args below meth c H locs la C hz hP hD hA hS hl) (fun h => absurd hc h)
theorem n_ge0 {x y : Int32} {off : Int} {tgt : Nat} (hd : decode q.cc pc = .ok (.if_icmp .ge off, 3)) (ht : (pc : Int) + off = (tgt : Int)) (hc : ¬ y ≤ x) (kk : GN D κ A q mc ms ws' sz' (pc + 3) lv st ws sz k n) : GN D κ A q mc ms ws' sz' pc lv (.int y :: .int x :: st) ws sz k n := by
  intro p l e s m args below meth c H locs la C hz hP hD hA hS hl
  exact lv_icmp_ge C.1 C.2.1 hd ht (fun h => absurd h hc) (fun _ => kk p l e s m args below meth c H locs la C hz hP hD hA hS hl)
theorem n_ne1 {x y : Int32} {off : Int} {tgt : Nat} (hd : decode q.cc pc = .ok (.if_icmp .ne off, 3)) (ht : (pc : Int) + off = (tgt : Int)) (hc : ¬ x = y) (kk : GN D κ A q mc ms ws' sz' tgt lv st ws sz k n) : GN D κ A q mc ms ws' sz' pc lv (.int y :: .int x :: st) ws sz k n := by
  intro p l e s m args below meth c H locs la C hz hP hD hA hS hl
  exact lv_icmp_ne C.1 C.2.1 hd ht (fun _ => kk p l e s m args below meth c H locs la C hz hP hD hA hS hl) (fun h => absurd h hc)
theorem n_ne0 {x y : Int32} {off : Int} {tgt : Nat} (hd : decode q.cc pc = .ok (.if_icmp .ne off, 3)) (ht : (pc : Int) + off = (tgt : Int)) (hc : x = y) (kk : GN D κ A q mc ms ws' sz' (pc + 3) lv st ws sz k n) : GN D κ A q mc ms ws' sz' pc lv (.int y :: .int x :: st) ws sz k n := by
  intro p l e s m args below meth c H locs la C hz hP hD hA hS hl
  exact lv_icmp_ne C.1 C.2.1 hd ht (fun h => absurd hc h) (fun _ => kk p l e s m args below meth c H locs la C hz hP hD hA hS hl)
theorem n_objInit {a index : Nat} (hd : decode q.cc pc = .ok (.invokespecial index, 3)) (hl1 : Cond.methodLink q.y.cls index objectInit ∈ TB) (h1 : 1 ≤ q.2.2.2.2.1) (h2 : 20 ≤ q.2.2.2.2.2) (hst : st = []) (kk : GN D κ A q mc ms ws' sz' (pc + 3) lv [] ws sz k n) : GN D κ A q mc ms ws' sz' pc lv (.ref a :: st) ws sz k n := by
  intro p l e s m args below meth c H locs la C hz hP hD hA hS hl
  subst hst
  have hts : ∀ w ∈ TB, w.before args s = true := fun w h => C.2.2.2.2.2.1 w (List.mem_cons_of_mem _ h)
  refine W.objInit C.1 C.2.1 C.2.2.2.2.1 (hts _ hl1) (hts _ tb_oinit.1) (hts _ tb_oinit.2) rfl (by rw [C.2.2.2.1]; exact hl.1) rfl hd (by show _ ≤ q.2.2.2.2.1; omega) (Nat.le_trans (Nat.le_of_ble_eq_true rfl) h2) ?_
  exact kk p l e s m args below meth c H locs la C hz hP hD hA hS hl
theorem n_return (hd : decode q.cc pc = .ok (.return_, 1)) (hr : q.rt = none) (hw : ws = ws') (hz' : sz = sz') (hk : k = mc) (hn : n = ms) : GN D κ A q mc ms ws' sz' pc lv [] ws sz k n := by
  intro p l e s m args below meth c H locs la C hz hP hD hA hS hl
  subst hw hz' hk hn
  exact W.vret C.1 C.2.1 (C.2.2.1.trans hr) (fun t ht hw => ⟨⟨(), rfl, trivial, by rw [ht]; exact hz, by rw [ht]; exact hP, KN.moved hw C.2.2.2.2.2.2.2.2, hD⟩, hS.F ht⟩) hS.2.2 hd C.2.2.2.2.2.2.1
theorem n_newarr {x : Int32} {N : Nat} (hd : decode q.cc pc = .ok (.newarray .int, 2)) (hn : ¬ x < 0) (hN : x.toNatClampNeg = N) (hb : N * 4 ≤ 536870912) (hc : k + 1 ≤ mc) (hs : n + N ≤ ms) (kk : GN D κ A q mc ms ws' sz' (pc + 2) lv (.ref sz :: st) (ws ++ [(sz, .inl (κ.1, N, .inl (fun _ => 0)))]) (sz + 1) (k + 1) (n + N)) : GN D κ A q mc ms ws' sz' pc lv (.int x :: st) ws sz k n := by
  intro p l e s m args below meth c H locs la C hz hP hD hA hS hl
  have hts : ∀ w ∈ TB, w.before args s = true := fun w h => C.2.2.2.2.2.1 w (List.mem_cons_of_mem _ h)
  refine va_newaK (atype := .int) C.1 C.2.1 (hts _ tb_arr) rfl hd rfl hn hN hb hc hs hz fun H1 cA e1 z1 o1 hAr hNm => ?_
  have eA : cA = κ.1 := by
    have h := ((C.2.2.2.2.2.2.2.2).1.2 0 _ rfl).2
    exact Option.some.inj (hNm.symm.trans h)
  subst eA
  subst hz
  have hk : ∀ (k : Nat) (x : Nat × va_E), ws[k]? = some x → H1[x.1]? = H[x.1]? := fun k x hx => o1 x.1 ((hP k x hx).lt)
  refine kk p l e s m args below meth c H1 locs la C z1 ((hP.kept hk).app (fun k x hx => ?_)) (hD.push hP rfl (hA _ hS.1)) hA ⟨Nat.le_trans hS.1 (by omega), fun x h1 h2 => (o1 x (Nat.lt_of_lt_of_le h1 hS.1)).trans (hS.2.1 x h1 h2), hS.2.2⟩ hl
  have hz : k < 1 := (List.getElem?_eq_some_iff.mp hx).1
  rw [show k = 0 by omega] at hx
  cases hx
  exact e1
theorem n_new {c0 index : Nat} {fs : List Value} (hc0 : c0 < 8) (hcl : Cond.classLink q.y.cls index (Rn c0) ∈ TB) (hin : Cond.instantiable (Rn c0) (nfn c0) ∈ TB) (hini : Cond.initialized (Rn c0) ∈ TB) (hfs : ∀ j, j < nfn c0 → defaultValue (tyn c0 j) = vp_V fs j) (hd : decode q.cc pc = .ok (.new index, 3)) (hc : k + 1 ≤ mc) (hs : n + nfn c0 ≤ ms) (kk : GN D κ A q mc ms ws' sz' (pc + 3) lv (.ref sz :: st) (ws ++ [(sz, .inr (c0, fs))]) (sz + 1) (k + 1) (n + nfn c0)) : GN D κ A q mc ms ws' sz' pc lv st ws sz k n := by
  intro p l e s m args below meth c H locs la C hz hP hD hA hS hl
  have hts : ∀ w ∈ TB, w.before args s = true := fun w h => C.2.2.2.2.2.1 w (List.mem_cons_of_mem _ h)
  have hKn := (C.2.2.2.2.2.2.2.2).1.1 c0 _ (cls_at hc0)
  refine W.newcK C.1 C.2.1 C.2.2.2.2.1 (hts _ hcl) (hts _ hin) (hts _ hini) rfl hd hc hs hKn.2.1 rfl fun H1 kC hkC e1 z1 o1 => ?_
  subst hz
  have hk : ∀ (k : Nat) (x : Nat × va_E), ws[k]? = some x → H1[x.1]? = H[x.1]? := fun k x hx => o1 x.1 ((hP k x hx).lt)
  refine kk p l e s m args below meth c H1 locs la C z1 ((hP.kept hk).app (fun k x hx => ?_)) (hD.push hP rfl (hA _ hS.1)) hA ⟨Nat.le_trans hS.1 (by omega), fun x h1 h2 => (o1 x (Nat.lt_of_lt_of_le h1 hS.1)).trans (hS.2.1 x h1 h2), hS.2.2⟩ hl
  have hz : k < 1 := (List.getElem?_eq_some_iff.mp hx).1
  rw [show k = 0 by omega] at hx
  cases hx
  exact ⟨_, cls_at hc0, (u_born (tyn c0) hts (lays_in hc0) hKn hkC e1 (tyn_ok hc0)).to hfs⟩
theorem n_anew {x : Int32} {N index : Nat} (hcl : Cond.classLink q.y.cls index RX2 ∈ TB) (hd : decode q.cc pc = .ok (.anewarray index, 3)) (hn : ¬ x < 0) (hN : x.toNatClampNeg = N) (hb : N * 4 ≤ 536870912) (hc : k + 1 ≤ mc) (hs : n + N ≤ ms) (kk : GN D κ A q mc ms ws' sz' (pc + 3) lv (.ref sz :: st) (ws ++ [(sz, .inl (κ.2.1, N, .inr (.inr (.inr (.inr (fun _ => none))))))]) (sz + 1) (k + 1) (n + N)) : GN D κ A q mc ms ws' sz' pc lv (.int x :: st) ws sz k n := by
  intro p l e s m args below meth c H locs la C hz hP hD hA hS hl
  have hts : ∀ w ∈ TB, w.before args s = true := fun w h => C.2.2.2.2.2.1 w (List.mem_cons_of_mem _ h)
  subst hN
  subst hz
  refine W.anew C.1 C.2.1 C.2.2.2.2.1 (hts _ hcl) (va_AO.use (C.2.2.2.2.2.2.2.2).2.1) rfl hd rfl hn hb hc hs fun cA kA comp f1 f2 f3 f4 => ?_
  have eA : cA = κ.2.1 := by
    obtain ⟨_, _, _, _, _, h⟩ := ((C.2.2.2.2.2.2.2.2).1.2 1 _ rfl).2
    exact Option.some.inj (f1.symm.trans h)
  subst eA
  generalize hH1 : H.push ({ cls := κ.2.1, slots := Array.replicate x.toNatClampNeg .null, vm := .none } : Cell) = H1
  have z1 : H1.size = H.size + 1 := by rw [← hH1, Array.size_push]
  have e1 : H1[H.size]? = some (arrV κ.2.1 x.toNatClampNeg (fun _ => .null)) := by rw [← hH1, Array.getElem?_push_size, ← arrV_new]
  have o1 : ∀ q : Nat, q < H.size → H1[q]? = H[q]? := fun q hq => by rw [← hH1, Array.getElem?_push, if_neg (Nat.ne_of_lt hq)]
  have hk : ∀ (k : Nat) (x : Nat × va_E), ws[k]? = some x → H1[x.1]? = H[x.1]? := fun k x hx => o1 x.1 ((hP k x hx).lt)
  refine kk p l e s m args below meth c H1 locs la C z1 ((hP.kept hk).app (fun k x hx => ?_)) (hD.push hP rfl (hA _ hS.1)) hA ⟨Nat.le_trans hS.1 (by omega), fun x h1 h2 => (o1 x (Nat.lt_of_lt_of_le h1 hS.1)).trans (hS.2.1 x h1 h2), hS.2.2⟩ hl
  have hz : k < 1 := (List.getElem?_eq_some_iff.mp hx).1
  rw [show k = 0 by omega] at hx
  cases hx
  exact e1
/-- a field of an object that is being made -/
theorem n_put {a c0 f index q0 : Nat} {fs : List Value} {v : Value} {ws2 : va_W} (hl1 : Cond.fieldLink q.y.cls index (Tn c0 f).1 (Tn c0 f).2.1 (Tn c0 f).2.2.1 ∈ TB) (hc0 : c0 < 8) (hf : f < nfn c0) (hfin : (Tn c0 f).2.2.2 = false ∨ ((Tn c0 f).2.2.2 = true ∧ (Tn c0 f).1 = q.y.cls)) (he : ws[q0]? = some (a, .inr (c0, fs))) (hlen : f < fs.length) (hn : narrow (tyn c0 f) v = v) (hfit : fits (tyn c0 f) v = true) (hd : decode q.cc pc = .ok (.putfield index, 3)) (hw : ws.set q0 (a, .inr (c0, fs.set f v)) = ws2) (kk : GN D κ A q mc ms ws' sz' (pc + 3) lv st ws2 sz k n) : GN D κ A q mc ms ws' sz' pc lv (v :: .ref a :: st) ws sz k n := by
  intro p l e s m args below meth c H locs la C hz hP hD hA hS hl
  subst hw
  have hts : ∀ w ∈ TB, w.before args s = true := fun w h => C.2.2.2.2.2.1 w (List.mem_cons_of_mem _ h)
  have hK := (C.2.2.2.2.2.2.2.2).1
  have hc := cls_at hc0
  have hap := va_apart (own := q.y.cls) hts (lays_in hc0) (tyn c0) (tyn_ok hc0) (nmn_ok hc0) hK hc
  obtain ⟨r, h1, cell, q1, q2, q3, q4⟩ := hP q0 _ he
  have hr : r = (Rn c0, Tn c0, nfn c0) := Option.some.inj (h1.symm.trans hc)
  subst hr
  obtain ⟨hSl, hfc, kC, hkC, hkind⟩ := hK.1 c0 _ hc
  obtain ⟨cf, kf, fi, g, hi, hsl⟩ := hSl f hf
  have hlay := hts _ (lays_in hc0 _ (u_in_lay hf))
  unfold u_lay at hlay
  have hst := (u_facts hfc hkC (u_lays hts (lays_in hc0) hf) hi).1
  rcases hfin with hfin | ⟨hfin, hdecl⟩
  · rw [if_neg (by rw [hfin]; decide)] at hlay
    have h6 := u_store hfc hkC hkind hlay hi (tyn_ok hc0 f hf) hn hfit
    refine W.putK C.1 C.2.1 (f := g) ⟨C.2.2.2.2.1, hts _ hl1, ⟨_, _, _, hi⟩, hst⟩ (by rw [q2]; exact h6) q1 q3 (by rw [hsl]; exact k2_hasslot (q4 f hf)) rfl rfl hd fun H' e1 e2 e3 => ?_
    rw [hsl] at e1 ⊢
    exact kk p l e s m args below meth c H' _ la C (e2.trans hz) (hP.set hD he ⟨_, hc, t_OB.to (V := updV (vp_V fs) f v) ⟨_, e1, q2, q3, t_set q4 hap hf v⟩ (fun j _ => vp_updV_set hlen v j)⟩ e3) (hD.set he) hA (hS.put e2 e3 (hD.2 q0 _ he)) hl
  · rw [if_pos hfin] at hlay
    have hcf : m.cls = cf := by
      obtain ⟨_, _, c', _, _, _, -, -, hf', -, -, -, hown2, -⟩ := Cond.laysFinal_spec hlay
      have e1 : c' = cf := by have := hi.symm.trans hf'; simp at this; exact this.1.symm
      rw [hdecl] at hown2
      rw [← e1]; exact Option.some.inj (C.2.2.2.2.1.symm.trans hown2)
    have h6 := u_fits hfc hkC hkind (Or.inr hlay) hi (tyn_ok hc0 f hf) hn hfit
    refine W.putFinK C.1 C.2.1 C.2.2.2.2.1 (hts _ hl1) hi hst hcf C.2.2.2.2.2.2.2.1 (by rw [q2]; exact h6) q1 q3 (by rw [hsl]; exact k2_hasslot (q4 f hf)) rfl rfl hd fun H' e1 e2 e3 => ?_
    rw [hsl] at e1 ⊢
    exact kk p l e s m args below meth c H' _ la C (e2.trans hz) (hP.set hD he ⟨_, hc, t_OB.to (V := updV (vp_V fs) f v) ⟨_, e1, q2, q3, t_set q4 hap hf v⟩ (fun j _ => vp_updV_set hlen v j)⟩ e3) (hD.set he) hA (hS.put e2 e3 (hD.2 q0 _ he)) hl
theorem n_get {a c0 f index q0 x : Nat} {fs : List Value} (hl1 : Cond.fieldLink q.y.cls index (Tn c0 f).1 (Tn c0 f).2.1 (Tn c0 f).2.2.1 ∈ TB) (hc0 : c0 < 8) (hf : f < nfn c0) (he : ws[q0]? = some (a, .inr (c0, fs))) (hv : vp_V fs f = .ref x) (hd : decode q.cc pc = .ok (.getfield index, 3)) (kk : GN D κ A q mc ms ws' sz' (pc + 3) lv (.ref x :: st) ws sz k n) : GN D κ A q mc ms ws' sz' pc lv (.ref a :: st) ws sz k n := by
  intro p l e s m args below meth c H locs la C hz hP hD hA hS hl
  have hts : ∀ w ∈ TB, w.before args s = true := fun w h => C.2.2.2.2.2.1 w (List.mem_cons_of_mem _ h)
  have hc := cls_at hc0
  obtain ⟨r, h1, cell, q1, q2, q3, q4⟩ := hP q0 _ he
  have hr : r = (Rn c0, Tn c0, nfn c0) := Option.some.inj (h1.symm.trans hc)
  subst hr
  obtain ⟨hSl, hfc, kC, hkC, hkind⟩ := (C.2.2.2.2.2.2.2.2).1.1 c0 _ hc
  obtain ⟨cf, kf, fi, g, hi, hsl⟩ := hSl f hf
  refine W.getf C.1 C.2.1 C.2.2.2.2.1 (hts _ hl1) hi (u_facts hfc hkC (u_lays hts (lays_in hc0) hf) hi).1 q1 (by rw [q3]; exact fun h => by cases h) (v := .ref x) ?_ rfl rfl hd (kk p l e s m args below meth c H locs la C hz hP hD hA hS hl)
  rw [hsl, q4 f hf]
  exact congrArg some hv
theorem n_iast {a q0 N j : Nat} {f : Nat → Int32} {i x : Int32} {ws2 : va_W} (he : ws[q0]? = some (a, .inl (κ.1, N, .inl f))) (hin : vp_in i N) (hj : i.toNatClampNeg = j) (hd : decode q.cc pc = .ok (.iastore, 1)) (hw : ws.set q0 (a, .inl (κ.1, N, .inl (upd f j x))) = ws2) (kk : GN D κ A q mc ms ws' sz' (pc + 1) lv st ws2 sz k n) : GN D κ A q mc ms ws' sz' pc lv (.int x :: .int i :: .ref a :: st) ws sz k n := by
  intro p l e s m args below meth c H locs la C hz hP hD hA hS hl
  subst hw hj
  have hK := (C.2.2.2.2.2.2.2.2).1
  refine W.iast C.1 C.2.1 (hP q0 _ he) ((hK.2 0 _ rfl).1 N (fun j => .int (f j))) (fun z => by cases z) (by show ¬ (i < 0 ∨ (arrV _ _ _).slots.size ≤ _); rw [arrV_size]; exact hin) rfl rfl hd fun H1 e1 e2 e3 => ?_
  refine kk p l e s m args below meth c H1 _ la C (e2.trans hz) (hP.set hD he ?_ e3) (hD.set he) hA (hS.put e2 e3 (hD.2 q0 _ he)) hl
  show H1[a]? = some (vp_cell _ _)
  rw [e1, vp_cell_i, vp_cell_i, arrV_store]
  congr 2
  funext j
  by_cases hj : j = i.toNatClampNeg
  · subst hj; simp [updV, upd]
  · simp [updV, upd, hj]
theorem n_aast {a q0 qk v N j : Nat} {vs : List Value} {f : Nat → Option Nat} {i : Int32} {ws2 : va_W} (he : ws[q0]? = some (a, .inl (κ.2.1, N, .inr (.inr (.inr (.inr f)))))) (hv : ws[qk]? = some (v, .inr (2, vs))) (hin : vp_in i N) (hj : i.toNatClampNeg = j) (hd : decode q.cc pc = .ok (.aastore, 1)) (hw : ws.set q0 (a, .inl (κ.2.1, N, .inr (.inr (.inr (.inr (va_up f j (some v))))))) = ws2) (kk : GN D κ A q mc ms ws' sz' (pc + 1) lv st ws2 sz k n) : GN D κ A q mc ms ws' sz' pc lv (.ref v :: .int i :: .ref a :: st) ws sz k n := by
  intro p l e s m args below meth c H locs la C hz hP hD hA hS hl
  subst hw hj
  have hK := (C.2.2.2.2.2.2.2.2).1
  have hlt : i.toNatClampNeg < N := Nat.not_le.mp fun q => hin (Or.inr q)
  have h0 : ¬ i < 0 := fun q => hin (Or.inl q)
  obtain ⟨r', hr', cellV, g1, g2, g3, -⟩ := hP qk _ hv
  have hcls := (hK.1 2 _ (cls_at (by decide))).2
  obtain ⟨kA, comp, k1, k2, k3, -⟩ := (hK.2 1 _ rfl).2
  have hcomp : comp = D.1 2 := Option.some.inj (k3.symm.trans hcls.1)
  subst hcomp
  obtain ⟨kC, hkC, -⟩ := hcls.2
  refine W.aast C.1 C.2.1 (hP q0 _ he) (fun q h => by cases h) (fun h => by cases h) k1 k2 rfl hkC ⟨h0, by show _ < (arrV _ _ _).slots.size; rw [arrV_size]; exact hlt⟩ g1 (fun q h => by rw [g3] at h; cases h) (by rw [g2]; exact hkC) (by rw [g2]; exact va_assign hcls) rfl rfl hd fun H1 e z oq => ?_
  refine kk p l _ s m args below meth c H1 _ la C (z.trans hz) (hP.set hD he ?_ oq) (hD.set he) hA (hS.put z oq (hD.2 q0 _ he)) hl
  show H1[a]? = some (vp_cell _ _)
  rw [e, vp_cell_q, vp_cell_q, arrV_store]
  congr 2
  funext q
  by_cases hq : q = i.toNatClampNeg
  · subst hq
    simp [updV, va_up, va_rf]
  · simp [updV, va_up, hq]
end NR
