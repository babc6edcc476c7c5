/-! new int[N][K], out of the machine's own step: what stands when i rows hang in the outer array -/
def MnaAt (St : State → List Loc → Nat → Nat → Prop) (vm : Vm) (H : Array Cell) (locs : List Loc) (k n N K : Nat) (O : Nat → Cell) (B : Cell) (i : Nat) (S : State) : Prop :=
  St S (locs ++ (List.range i).map fun j => (⟨H.size, j⟩ : Loc)) (k + 1 + i) (n + N + i * K) ∧ S.vm = vm ∧ S.heap.size = H.size + 1 + i ∧ S.heap[H.size]? = some (O i) ∧ (∀ j : Nat, j < i → S.heap[H.size + 1 + j]? = some B) ∧ ∀ a : Nat, a < H.size → S.heap[a]? = H[a]?
theorem MnaAt.st {St : State → List Loc → Nat → Nat → Prop} {vm : Vm} {H : Array Cell} {locs : List Loc} {k n N K : Nat} {O : Nat → Cell} {B : Cell} {i : Nat} {S : State} (h : MnaAt St vm H locs k n N K O B i S) : St S (locs ++ (List.range i).map fun j => (⟨H.size, j⟩ : Loc)) (k + 1 + i) (n + N + i * K) := h.1
theorem MnaAt.tb {St : State → List Loc → Nat → Nat → Prop} {vm : Vm} {H : Array Cell} {locs : List Loc} {k n N K : Nat} {O : Nat → Cell} {B : Cell} {i : Nat} {S : State} (h : MnaAt St vm H locs k n N K O B i S) : S.vm = vm := h.2.1
theorem MnaAt.sz {St : State → List Loc → Nat → Nat → Prop} {vm : Vm} {H : Array Cell} {locs : List Loc} {k n N K : Nat} {O : Nat → Cell} {B : Cell} {i : Nat} {S : State} (h : MnaAt St vm H locs k n N K O B i S) : S.heap.size = H.size + 1 + i := h.2.2.1
theorem MnaAt.out {St : State → List Loc → Nat → Nat → Prop} {vm : Vm} {H : Array Cell} {locs : List Loc} {k n N K : Nat} {O : Nat → Cell} {B : Cell} {i : Nat} {S : State} (h : MnaAt St vm H locs k n N K O B i S) : S.heap[H.size]? = some (O i) := h.2.2.2.1
theorem MnaAt.row {St : State → List Loc → Nat → Nat → Prop} {vm : Vm} {H : Array Cell} {locs : List Loc} {k n N K : Nat} {O : Nat → Cell} {B : Cell} {i : Nat} {S : State} (h : MnaAt St vm H locs k n N K O B i S) : ∀ j : Nat, j < i → S.heap[H.size + 1 + j]? = some B := h.2.2.2.2.1
theorem MnaAt.old {St : State → List Loc → Nat → Nat → Prop} {vm : Vm} {H : Array Cell} {locs : List Loc} {k n N K : Nat} {O : Nat → Cell} {B : Cell} {i : Nat} {S : State} (h : MnaAt St vm H locs k n N K O B i S) : ∀ a : Nat, a < H.size → S.heap[a]? = H[a]? := h.2.2.2.2.2
/-- one row more -/
def mnaNext (h0 : Nat) (O : Nat → Cell) (B : Cell) (i : Nat) (S : State) : State := (S.pushCell B).setCell h0 (O (i + 1))
section MNA
variable {p : Program} {l : Launch} {e : Env} {R : Room} {s : State} {m : MethodId} {args : Array Value} {below : List Frame} {meth : Method} {c : Code} {vm : Vm} {H : Array Cell} {locs : List Loc} {k n N K : Nat} {O : Nat → Cell} {B : Cell}
theorem mna_next (hB : B.slots.size = K) (hO : ∀ i, O (i + 1) = (O i).setSlot i (.ref (H.size + 1 + i))) {i : Nat} {S : State} (h : MnaAt (Stand p l e R s m args below meth c) vm H locs k n N K O B i S) :
    MnaAt (Stand p l e R s m args below meth c) vm H locs k n N K O B (i + 1) (mnaNext H.size O B i S) := by
  have hz := h.sz
  have h0 : (S.pushCell B).heap[H.size]? = some (O i) := (State.heap_pushCell_of_lt S B (show H.size < S.heap.size by omega)).trans h.out
  refine ⟨?_, h.tb, ?_, State.heap_setCell_self h0, fun j hj => ?_, fun a ha => ?_⟩
  · have a := (h.st.pushed B).stored h0 i (.ref (H.size + 1 + i))
    rw [← hO, hB, List.append_assoc] at a
    rw [List.range_succ, List.map_append, Nat.succ_mul, ← Nat.add_assoc, ← Nat.add_assoc]
    exact a
  · show ((S.pushCell B).heap.setIfInBounds H.size _).size = _
    rw [Array.size_setIfInBounds]
    simp [hz]
    omega
  · refine (State.heap_setCell_other (show H.size ≠ H.size + 1 + j by omega)).trans ?_
    by_cases e : j = i
    · subst e
      rw [← hz]
      exact State.heap_pushCell_size _ _
    · exact (State.heap_pushCell_of_lt S B (show H.size + 1 + j < S.heap.size by omega)).trans (h.row j (by omega))
  · exact (State.heap_setCell_other (show H.size ≠ a by omega)).trans ((State.heap_pushCell_of_lt S B (show a < S.heap.size by omega)).trans (h.old a ha))
/-- the rest of the rows -/
theorem mna_rest (hB : B.slots.size = K) (hO : ∀ i, O (i + 1) = (O i).setSlot i (.ref (H.size + 1 + i))) : ∀ (r i : Nat) (S : State), i + r = N → MnaAt (Stand p l e R s m args below meth c) vm H locs k n N K O B i S →
    ∃ F, MnaAt (Stand p l e R s m args below meth c) vm H locs k n N K O B N F ∧ ∀ (f : Nat → PUnit → Sem (ForInStep PUnit)) (g : JFrame) (E : CtlPost),
      (∀ (i : Nat) (S : State) (d : Bool) (acts : List Action) (Q : ForInStep PUnit → Pre), i < N → MnaAt (Stand p l e R s m args below meth c) vm H locs k n N K O B i S → (∀ d' acts', Q (.yield PUnit.unit) d' acts' ((mnaNext H.size O B i S).setTop g)) → wp (f i PUnit.unit) Q E e d acts (S.setTop g)) →
      ∀ (d : Bool) (acts : List Action) (Q : PUnit → Pre), (∀ d' acts', Q PUnit.unit d' acts' (F.setTop g)) → wp (forIn (List.range' i r) PUnit.unit f) Q E e d acts (S.setTop g) := by
  intro r
  induction r with
  | zero =>
    intro i S hi h
    have e : i = N := hi
    subst e
    exact ⟨S, h, fun f g E _ d acts Q hQ => by simp only [List.range'_zero, List.forIn_nil, wp_pure']; exact hQ d acts⟩
  | succ r ih =>
    intro i S hi h
    obtain ⟨F, hF, w⟩ := ih (i + 1) (mnaNext H.size O B i S) (by omega) (mna_next hB hO h)
    refine ⟨F, hF, fun f g E hf d acts Q hQ => ?_⟩
    rw [List.range'_succ, List.forIn_cons, wp_bind']
    exact hf i S d acts _ (by omega) h (fun d' acts' => w f g E hf d' acts' Q hQ)
/-- the outer array's class, its size -/
theorem mna_outer {cA : ClassId} (hO0 : O 0 = { cls := cA, slots := Array.replicate N .null, vm := .none }) (hO : ∀ i, O (i + 1) = (O i).setSlot i (.ref (H.size + 1 + i))) (i : Nat) : (O i).cls = cA ∧ (O i).vm = .none ∧ (O i).slots.size = N := by
  induction i with
  | zero => rw [hO0]; exact ⟨rfl, rfl, Array.size_replicate⟩
  | succ i ih =>
    rw [hO]
    exact ⟨ih.1, ih.2.1, (Array.size_setIfInBounds ..).trans ih.2.2⟩
/-- the class of int[][] is over that of int[] -/
theorem mna_over {cA cB : ClassId} (h : (Cond.arrayOver (.array .int)).before args s = true) (fA : s.vm.findClass "[[I" = some cA) (fB : s.vm.findClass "[I" = some cB) : ∃ kA, s.vm.classes[cA]? = some kA ∧ kA.kind = .array cB (.array .int) := by
  have tB : (FieldType.array .int).toString = "[I" := by decide +kernel
  have tA : "[" ++ (FieldType.array .int).toString = "[[I" := by decide +kernel
  have h1 := beq_iff_eq.mp h
  simp only [Cond.value] at h1
  rw [tB, fB, Option.bind_some] at h1
  obtain ⟨cc, hi, h2⟩ := Option.bind_eq_some_iff.mp h1
  obtain ⟨kA, hk, h3⟩ := Option.map_eq_some_iff.mp h2
  obtain ⟨hlt, hp, -⟩ := Array.findIdx?_eq_some_iff_getElem.mp hi
  rw [Array.getElem?_eq_getElem hlt] at hk
  rw [Option.some.inj hk] at hp
  split at h3
  · rename_i x ty hkd
    rw [hkd] at hp
    have h4 := (Bool.and_eq_true _ _ ▸ h3 : _ ∧ _)
    have e1 : cA = cc := Option.some.inj (fA.symm.trans (of_decide_eq_true h4.2))
    subst e1
    refine ⟨kA, (Array.getElem?_eq_getElem hlt).trans hk, ?_⟩
    rw [hkd, of_decide_eq_true h4.1, eq_of_beq hp]
  · cases h3
/-- the whole instruction -/
theorem mna_run {T : State} (X : Stand p l e R s m args below meth c T locs k n) (hexec : p.tables.exec = Jvm.exec) {own : String} {index : Nat} (hown : s.vm.findClass own = some m.cls)
    (hcl : (Cond.classLink own index "[[I").before args s = true) (hov : (Cond.arrayOver (.array .int)).before args s = true) (har : (Cond.arrayClass .int).before args s = true)
    {cA cB : ClassId} (fA : s.vm.findClass "[[I" = some cA) (fB : s.vm.findClass "[I" = some cB)
    {g : JFrame} (hg : g.method = m) (hd : decode c.code g.pc = .ok (.multianewarray index 2, 4)) {x y : Int32} {rest : List Value} (hst : g.stack = .int y :: .int x :: rest)
    (hx : ¬ x < 0) (hy : ¬ y < 0) (hN : x.toNatClampNeg = N) (hK : y.toNatClampNeg = K) (hN1 : N ≤ 1000) (hK1 : K ≤ 1000) (hc : k + (1 + N) ≤ R.cells) (hs : n + (N + N * K) ≤ R.slots)
    (hO0 : O 0 = { cls := cA, slots := Array.replicate N .null, vm := .none }) (hO : ∀ i, O (i + 1) = (O i).setSlot i (.ref (T.heap.size + 1 + i))) (hB : B = { cls := cB, slots := Array.replicate K (.int 0), vm := .none }) :
    ∃ vm F, MnaAt (Stand p l e R s m args below meth c) vm T.heap locs k n N K O B N F ∧ ∀ t, Steps p.tables e below (F.setTop { g with pc := g.pc + 4, stack := .ref T.heap.size :: rest }) t → Steps p.tables e below (T.setTop g) t := by
  subst hg
  obtain ⟨kA, hkA, hdA⟩ := mna_over hov fA fB
  obtain ⟨cB', kB, cc, fB', hkB, hdB⟩ := Cond.arrayClass_spec har
  have eB : cB' = cB := Option.some.inj (fB'.symm.trans ((congrArg s.vm.findClass (show "[" ++ FieldType.int.toString = "[I" by decide +kernel)).trans fB))
  subst eB
  obtain ⟨cA', fA', hlk⟩ := Cond.classLink_spec hown hcl e.platform (by rw [X.admits.platform])
  cases fA.symm.trans fA'
  obtain ⟨hgv, hwm, hrd⟩ := State.classEntry (e := e) X.warmed hlk
  generalize T.vm.noted g.method.cls index (.cls cA) = vm₁ at hgv hwm hrd
  obtain ⟨kA₁, hA₁, eA₁⟩ := hwm.alike.2.2 _ _ hkA
  obtain ⟨kB₁, hB₁, eB₁⟩ := hwm.alike.2.2 _ _ hkB
  have dA : kA₁.kind = .array cB' (.array .int) := by rw [eA₁]; exact hdA
  have dB : kB₁.kind = .array cc .int := by rw [eB₁]; exact hdB
  have hBs : B.slots.size = K := by rw [hB]; exact Array.size_replicate
  have hOut := mna_outer (H := T.heap) (N := N) hO0 hO
  have h0 : MnaAt (Stand p l e R s g.method args below meth c) vm₁ T.heap locs k n N K O B 0 ((T.setVm vm₁).pushCell (O 0)) := by
    refine ⟨?_, rfl, by simp, State.heap_pushCell_size _ _, fun j hj => absurd hj (Nat.not_lt_zero j), fun a ha => State.heap_pushCell_of_lt (T.setVm vm₁) _ ha⟩
    have a := (X.noted hwm).pushed (O 0)
    rw [(hOut 0).2.2] at a
    simpa using a
  obtain ⟨F, hF, w⟩ := mna_rest hBs hO N 0 _ (Nat.zero_add N) h0
  refine ⟨vm₁, F, hF, fun t ht => ?_⟩
  have lim : e.platform.arrayLengthLimit = 2147483645 := Launch.admits_arrayLengthLimit X.admits
  have heap : e.platform.maxHeapBytes = 536870912 := Launch.admits_maxHeapBytes X.admits
  obtain ⟨r1, r2⟩ := X.roomAbove hc hs
  jvm_step X.here [hexec, hd]
  simp only [multianewarray.sem, wp_bind', W.resolveClassAt_links (State.method?_setTop g X.here.top) hgv]
  rw [W.popN, if_neg (by decide)]
  refine ⟨g, State.topJava?_setTop' (s := T.setVm vm₁) g X.here.top, [.int x, .int y], rest, rfl, hst, ?_⟩
  simp only [List.mapM_cons, List.mapM_nil, wp_bind', wp_pure']
  rw [multianewarray.make]
  simp only [wp_bind', hx, if_false, W.theClass]
  refine ⟨kA₁, hA₁, ?_⟩
  rw [dA, hN]
  have eS : ((T.setTop g).setVm vm₁).setTop { g with stack := rest } = (T.setVm vm₁).setTop { g with stack := rest } := State.setTop_setTop (T.setVm vm₁) g { g with stack := rest }
  rw [eS]
  rw [wp_bind']
  have slack : N ≤ N + N * K := Nat.le_add_right _ _
  refine W.newArray_of (k := kA₁) (type := .array .int) hA₁ dA (by rw [lim]; omega) (by rw [heap]; show ¬ N * 4 > _; omega) (by show T.heap.size < _; omega) (by show T.slotsUsed + _ ≤ _; omega) rfl (fun acts' => ?_)
  have hnone : List.find? (fun z : Int32 => decide (z < 0)) [y] = none := by simp [hy]
  rw [hnone, ite_self, Std.Legacy.Range.forIn_eq_forIn_range']
  rw [wp_bind']
  have hsz : ([:N] : Std.Legacy.Range).size = N := by simp [Std.Legacy.Range.size]
  rw [hsz, ← hO0]
  refine w _ { g with stack := rest } _ (fun i S d acts Q hi h hQ => ?_) true acts' _ (fun d' acts'' => ?_)
  · have hz := h.sz
    have one : i * K + K ≤ N * K := by
      have := Nat.mul_le_mul_right K (show i + 1 ≤ N from hi)
      rwa [Nat.succ_mul] at this
    obtain ⟨q1, q2⟩ := h.st.roomAbove (a := 1) (b := K) (by omega) (by omega)
    obtain ⟨o1, o2, o3⟩ := hOut i
    rw [wp_bind', multianewarray.make]
    simp only [wp_bind', hy, if_false, W.theClass]
    refine ⟨kB₁, by rw [State.vm_setTop, h.tb]; exact hB₁, ?_⟩
    rw [dB, hK]
    refine W.newArray_of (k := kB₁) (type := .int) (by rw [State.vm_setTop, h.tb]; exact hB₁) dB (by rw [lim]; omega) (by rw [heap]; show ¬ K * 4 > _; omega) (by show S.heap.size < _; omega) (by show S.slotsUsed + _ ≤ _; omega) rfl (fun acts3 => ?_)
    rw [wp_bind', W.writeLoc]
    have hcell : (S.pushCell B).heap[T.heap.size]? = some (O i) := (State.heap_pushCell_of_lt S B (show T.heap.size < S.heap.size by omega)).trans h.out
    subst hB
    refine ⟨O i, hcell, by rw [o2]; simp, by rw [o3]; exact hi, ?_, ?_⟩
    · rw [o1, o2]
      have e1 : (((S.setTop { g with stack := rest }).pushCell { cls := cB', slots := Array.replicate K (defaultValue .int) }).vm.classes[cA]?) = some kA₁ := by
        show S.vm.classes[cA]? = _
        rw [h.tb]
        exact hA₁
      simp only [State.fitsSlot, State.slotType?]
      rw [e1]
      simp only [Option.bind_eq_bind, Option.bind_some, dA]
      rfl
    · have v : (Value.ref (S.setTop { g with stack := rest }).heap.size) = .ref (T.heap.size + 1 + i) := congrArg Value.ref hz
      rw [wp_pure', v]
      have q := hQ true
      rw [mnaNext, hO] at q
      exact q _
  · rw [wp_pure', wp_bind', W.mark, W.pushRef]
    refine ⟨_, State.topJava?_setTop' _ hF.st.here.top, ?_⟩
    intro acts
    rw [State.setTop_setTop]
    simp [jvm]
    exact ht
end MNA
/-! the outer array, row by row -/
theorem mna_arr0 (c : ClassId) (N h0 : Nat) : arrV c N (fun j => va_rf (if j < 0 then some (h0 + 1 + j) else none)) = { cls := c, slots := Array.replicate N .null, vm := .none } := by
  rw [arrV_new]
  exact congrArg (arrV c N) (funext fun j => by rw [if_neg (Nat.not_lt_zero j)]; rfl)
theorem mna_arrS (c : ClassId) (N h0 i : Nat) : arrV c N (fun j => va_rf (if j < i + 1 then some (h0 + 1 + j) else none)) = (arrV c N (fun j => va_rf (if j < i then some (h0 + 1 + j) else none))).setSlot i (.ref (h0 + 1 + i)) := by
  rw [arrV_store]
  refine congrArg (arrV c N) (funext fun j => ?_)
  by_cases e : j = i
  · subst e
    rw [if_pos (Nat.lt_succ_self j)]
    simp [updV, va_rf]
  · by_cases h : j < i
    · rw [if_pos (by omega)]
      simp [updV, e, h]
    · rw [if_neg (by omega)]
      simp [updV, e, h]
theorem mna_row : MnaRow := by
  intro D κ A q mc ms sz' pc sz k n ws' ws ws2 lv st index N K x y hcl hd hx0 hy0 hN hK hN1 hK1 hc hs hw kk
  intro p l e s m args below meth c H locs la C hz hP hD hA hS hl
  subst hw hz
  have hts : ∀ w ∈ TB, w.before args s = true := fun w h => C.2.2.2.2.2.1 w (List.mem_cons_of_mem _ h)
  have hKN := C.2.2.2.2.2.2.2.2
  have fA : s.vm.findClass "[[I" = some κ.2.2 := (congrArg s.vm.findClass (show "[[I" = "[" ++ (FieldType.array .int).toString by decide +kernel)).trans (hKN.1.2 2 _ rfl).2
  have fB : s.vm.findClass "[I" = some κ.1 := (congrArg s.vm.findClass (show "[I" = "[" ++ FieldType.int.toString by decide +kernel)).trans (hKN.1.2 0 _ rfl).2
  have hov : (Cond.arrayOver (.array .int)).before args s = true := hKN.2.2.1
  intro T hT Xs
  have hTh : T.heap = H := hT
  obtain ⟨vm₁, F, hF, step⟩ := mna_run (O := fun i => arrV κ.2.2 N (fun j => va_rf (if j < i then some (T.heap.size + 1 + j) else none))) Xs C.1 C.2.2.2.2.1 (hts _ hcl) hov (hts _ tb_arr) fA fB (g := F0 m pc la (.int y :: .int x :: st)) rfl (by rw [C.2.1]; exact hd) rfl hx0 hy0 hN hK hN1 hK1 hc hs (mna_arr0 κ.2.2 N T.heap.size) (fun i => mna_arrS κ.2.2 N T.heap.size i) rfl
  have X' := hF.st
  have f1 := hF.sz
  have f2 := hF.out
  have hold := hF.old
  have hrow : ∀ j : Nat, j < N → F.heap[T.heap.size + 1 + j]? = some (arrV κ.1 K (fun _ => .int 0)) := fun j hj => (hF.row j hj).trans (congrArg some (arrV_new κ.1 K (.int 0)))
  rw [hTh] at f1 f2 hold hrow
  have hget : ∀ (j : Nat) (z : Nat × va_E), (((H.size, Sum.inl (κ.2.2, N, .inr (.inr (.inr (.inr (fun i => if i < N then some (H.size + 1 + i) else none)))))) :: (List.range N).map (fun i => (H.size + 1 + i, Sum.inl (κ.1, K, .inl (fun _ => 0))))) : va_W)[j]? = some z → z.1 = H.size + j ∧ va_at D classes z F.heap := by
    intro j z hj
    cases j with
    | zero =>
      cases hj
      exact ⟨rfl, f2⟩
    | succ j =>
      rw [List.getElem?_cons_succ, List.getElem?_map] at hj
      by_cases h9 : j < N
      · rw [List.getElem?_range h9] at hj
        cases hj
        exact ⟨by show H.size + 1 + j = H.size + (j + 1); omega, hrow j h9⟩
      · rw [show (List.range N)[j]? = none from List.getElem?_eq_none (by rw [List.length_range]; omega)] at hj
        cases hj
  have hP2 := (hP.kept (fun k9 z hz => hold z.1 ((hP k9 z hz).lt))).app (fun j z hj => (hget j z hj).2)
  have hD2 := hD.app (A := A) ⟨fun i j u v hi hj huv => by have a := (hget i u hi).1; have b := (hget j v hj).1; omega, fun j z hj => hA _ (by rw [(hget j z hj).1]; have := hS.1; omega)⟩ (fun i j u v hi hj huv => by have a := (hP i u hi).lt; have b := (hget j v hj).1; omega)
  obtain ⟨t, a1, b1⟩ := kk p l e s m args below meth c F.heap _ la C f1 hP2 hD2 hA ⟨by rw [f1]; have := hS.1; omega, fun a h1 h2 => (hold a (Nat.lt_of_lt_of_le h1 hS.1)).trans (hS.2.1 a h1 h2), fun q hq => by
    rcases List.mem_append.mp hq with h | h
    · exact hS.2.2 q h
    · obtain ⟨j, -, rfl⟩ := List.mem_map.mp h
      exact hA _ (by show s.heap.size ≤ T.heap.size; rw [hT]; exact hS.1)⟩ hl F rfl X'
  refine ⟨t, step t ?_, b1⟩
  have e : T.heap.size = H.size := by rw [hT]
  rw [e]
  exact a1
