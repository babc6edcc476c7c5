/-! constructors: calls, arrays of arrays -/
def okN (q q' : MI) (index n : Nat) : Prop := Cond.methodLink q.y.cls index q'.y ∈ TB ∧ Cond.instanceMethod q'.y ∈ TB ∧ Cond.initialized q'.y.cls ∈ TB ∧ Cond.code q'.y q'.cc q'.ml q'.rt ∈ TB ∧
  (q'.y.cls ≠ "java/lang/invoke/MethodHandle" ∧ q'.y.cls ≠ "java/lang/invoke/VarHandle" ∧ (parseMethodDescriptor q'.y.desc).map (fun d => d.parameters.length) = some n) ∧ (q'.2.2.2.2.1 + 1 ≤ q.2.2.2.2.1 ∧ 8 + (q'.ml + 11) + q'.2.2.2.2.2 ≤ q.2.2.2.2.2) ∧ q'.rt = none ∧ q'.y.name = "<init>"
theorem callBN {q q' : MI} {index n mc ms mc' ms' : Nat} {s : State} {args : Array Value} (hts : ∀ w ∈ q.ws, w.before args s = true) (ok : okN q q' index n) : CallB (rmN q mc ms) s args q.y.cls index q'.y q'.cc q'.ml q'.rt q'.ws (rmN q' mc' ms') mc' ms' n :=
  callB_of n hts (ws_good ok.2.2.2.1) rfl rfl rfl (hts _ (List.mem_cons_of_mem _ ok.2.2.1)) (hts _ (List.mem_cons_of_mem _ ok.1)) ok.2.2.2.2.1 ok.2.2.2.2.2.1
theorem n_join {D : va_G} {A : Nat → Prop} {ws nw : va_W} {a q0 sz : Nat} {e0 e1 : va_E} {H H1 : Heap} (hz : H.size = sz) (hP : va_P D classes ws H) (hD : va_D A ws) (he : ws[q0]? = some (a, e0)) (hk : ∀ q : Nat, q < H.size → ¬ va_A [(a, e0)] sz q → H1[q]? = H[q]?) (hF : ∀ q, va_A [(a, e0)] sz q → A q) (hP1 : va_P D classes ((a, e1) :: nw) H1) (hD1 : va_D (va_A [(a, e0)] sz) ((a, e1) :: nw)) : va_P D classes (ws.set q0 (a, e1) ++ nw) H1 ∧ va_D A (ws.set q0 (a, e1) ++ nw) := by
  have hq : q0 < ws.length := (List.getElem?_eq_some_iff.mp he).1
  have ha : a < H.size := (hP q0 _ he).lt
  have hnew : ∀ (j : Nat) (x : Nat × va_E), nw[j]? = some x → x.1 ≠ a ∧ sz ≤ x.1 := fun j x hx => by
    have h2 : ((a, e1) :: nw)[j + 1]? = some x := by simpa using hx
    have hne : x.1 ≠ a := fun z => by
      have := hD1.1 (j + 1) 0 x (a, e1) h2 rfl z
      omega
    refine ⟨hne, ?_⟩
    rcases hD1.2 (j + 1) x h2 with ⟨k, e, h⟩ | h
    · exfalso
      have hk0 : k < 1 := (List.getElem?_eq_some_iff.mp h).1
      rw [show k = 0 by omega] at h
      cases h
      exact hne rfl
    · exact h
  have hPs : va_P D classes (ws.set q0 (a, e1)) H1 := by
    intro k x hx
    rw [List.getElem?_set] at hx
    split at hx
    · next e =>
      subst e
      cases hx
      exact hP1 0 _ rfl
    · next e =>
      have hx0 := hP k x hx
      refine hx0.kept (hk x.1 hx0.lt (fun z => ?_))
      rcases z with ⟨k2, e2, h⟩ | h
      · have hk0 : k2 < 1 := (List.getElem?_eq_some_iff.mp h).1
        rw [show k2 = 0 by omega] at h
        have h3 : x.1 = a := by
          have : some (a, e0) = some (x.1, e2) := h
          injection this with h4
          injection h4 with h5
          exact h5.symm
        exact e (hD.1 q0 k _ _ he hx h3.symm)
      · have := hx0.lt
        omega
  have hPn : va_P D classes nw H1 := fun k x hx => hP1 (k + 1) x (by simpa using hx)
  refine ⟨hPs.app hPn, (hD.set he).app ⟨fun i j x y hi hj hxy => ?_, fun k x hx => ?_⟩ (fun i j x y hi hj z => ?_)⟩
  · have := hD1.1 (i + 1) (j + 1) x y (by simpa using hi) (by simpa using hj) hxy
    omega
  · exact hF _ (Or.inr (hnew k x hx).2)
  · have h1 := hnew j y hj
    rw [List.getElem?_set] at hi
    split at hi
    · next e =>
      subst e
      cases hi
      exact h1.1 z.symm
    · next e =>
      have := (hP i x hi).lt
      omega
section NC
variable {D : va_G} {κ : ClassId × ClassId × ClassId} {A : Nat → Prop} {q : MI} {mc ms sz' pc sz k n : Nat} {ws' ws : va_W} {lv : List (Nat × Value)} {st : List Value}
theorem n_call {q' : MI} {mc' ms' index nn q0 a sz1 : Nat} {As st0 : List Value} {e0 e1 : va_E} {nw ws2 : va_W} (hS' : SpecN D κ q' mc' ms' (.ref a :: As) [(a, e0)] sz ((a, e1) :: nw) sz1) (ok : okN q q' index nn) (hd : decode q.cc pc = .ok (.invokespecial index, 3)) (hn : As.length = nn) (he : ws[q0]? = some (a, e0)) (hr : (st.map fun v => v.category).sum ≤ 8) (hst : st0 = As.reverse ++ .ref a :: st) (hc : k + mc' ≤ mc) (hs : n + ms' ≤ ms) (hw : ws.set q0 (a, e1) ++ nw = ws2) (kk : GN D κ A q mc ms ws' sz' (pc + 3) lv st ws2 sz1 (k + mc') (n + ms')) : GN D κ A q mc ms ws' sz' pc lv st0 ws sz k n := by
  intro p l e s m args below meth c H locs la C hz hP hD hA hS hl
  subst hw hst
  obtain ⟨hx, hb, hrt, hml, hown, hts, hlk, hin, hK⟩ := id C
  have hF : ∀ q, va_A [(a, e0)] sz q → A q := fun q z => by
    rcases z with ⟨k2, e2, h⟩ | h
    · have hk0 : k2 < 1 := (List.getElem?_eq_some_iff.mp h).1
      rw [show k2 = 0 by omega] at h
      have h3 : a = q := by
        have : some (a, e0) = some (q, e2) := h
        injection this with h4
        injection h4
      rw [← h3]
      exact hD.2 q0 _ he
    · exact hA q (Nat.le_trans hS.1 (by omega))
  have hP0 : va_P D classes [(a, e0)] H := fun k2 x hx2 => by
    have hk0 : k2 < 1 := (List.getElem?_eq_some_iff.mp hx2).1
    rw [show k2 = 0 by omega] at hx2
    cases hx2
    exact hP q0 _ he
  have hD0 : va_D (fun _ => True) [(a, e0)] := ⟨fun i j x y hi hj _ => by
    have h1 : i < 1 := (List.getElem?_eq_some_iff.mp hi).1
    have h2 : j < 1 := (List.getElem?_eq_some_iff.mp hj).1
    omega, fun _ _ _ => trivial⟩
  have ok2 := ok.2.2.2.2.2.2
  have hcb := callBN (mc := mc) (ms := ms) (mc' := mc') (ms' := ms') hts ok
  rw [ok2.1] at hcb
  refine va_callv (va_runI (As := As) (rest := st) ⟨hx, hb, hml, hown, hts⟩ (hS' l) ⟨hcb, ok2.2, hts _ (List.mem_cons_of_mem _ ok.2.1)⟩ ⟨fun a U g mk z => ⟨z.1, z.2.1, z.2.2.1, z.2.2.2.1.calling g mk a, z.2.2.2.2⟩, fun U hU hW => ⟨rfl, by rw [hU]; exact hz, by rw [hU]; exact hP0, KN.moved hW hK, hD0⟩⟩ rfl hn hl.1 rfl (lv_room hr) hd ⟨hc, hs⟩) hS (fun q _ z => hF q z) hF (fun u t H1 locs1 ht hvm hw hB hz1 hk1 hS1 => ?_)
  obtain ⟨g1, g2, g3, g4⟩ := hB
  rw [ht] at g1 g2
  have J := n_join hz hP hD he hk1 hF g2 g4
  exact kk p l e s m args below meth c H1 locs1 la C g1 J.1 J.2 hA hS1 hl
def okP (q q' : MI) (n : Nat) : Prop := Cond.instanceMethod q'.y ∈ TB ∧ Cond.initialized q'.y.cls ∈ TB ∧ Cond.code q'.y q'.cc q'.ml q'.rt ∈ TB ∧ (q'.y.cls ≠ "java/lang/invoke/MethodHandle" ∧ q'.y.cls ≠ "java/lang/invoke/VarHandle" ∧ (parseMethodDescriptor q'.y.desc).map (fun d => d.parameters.length) = some n) ∧ (q'.2.2.2.2.1 + 1 ≤ q.2.2.2.2.1 ∧ 8 + (q'.ml + 11) + q'.2.2.2.2.2 ≤ q.2.2.2.2.2) ∧ q'.rt = none ∧ q'.y.name = "<init>"
theorem n_callP {q' : MI} {mc' ms' index nn q0 a sz1 : Nat} {As st0 : List Value} {e0 e1 : va_E} {nw ws2 : va_W} (hS' : SpecN D κ q' mc' ms' (.ref a :: As) [(a, e0)] sz ((a, e1) :: nw) sz1) (hlnk : (q.y.cls = RX6 ∧ index = 24 ∧ q'.y = yX0_init) ∨ (q.y.cls = RX1 ∧ index = 11 ∧ q'.y = yX4_init) ∨ (q.y.cls = RX6 ∧ index = 40 ∧ q'.y = yX5_init)) (ok : okP q q' nn) (hd : decode q.cc pc = .ok (.invokespecial index, 3)) (hn : As.length = nn) (he : ws[q0]? = some (a, e0)) (hr : (st.map fun v => v.category).sum ≤ 8) (hst : st0 = As.reverse ++ .ref a :: st) (hc : k + mc' ≤ mc) (hs : n + ms' ≤ ms) (hw : ws.set q0 (a, e1) ++ nw = ws2) (kk : GN D κ A q mc ms ws' sz' (pc + 3) lv st ws2 sz1 (k + mc') (n + ms')) : GN D κ A q mc ms ws' sz' pc lv st0 ws sz k n := by
  intro p l e s m args below meth c H locs la C hz hP hD hA hS hl
  subst hw hst
  obtain ⟨hx, hb, hrt, hml, hown, hts, hlk, hin, hK⟩ := id C
  have hF : ∀ q, va_A [(a, e0)] sz q → A q := fun q z => by
    rcases z with ⟨k2, e2, h⟩ | h
    · have hk0 : k2 < 1 := (List.getElem?_eq_some_iff.mp h).1
      rw [show k2 = 0 by omega] at h
      have h3 : a = q := by
        have : some (a, e0) = some (q, e2) := h
        injection this with h4
        injection h4
      rw [← h3]
      exact hD.2 q0 _ he
    · exact hA q (Nat.le_trans hS.1 (by omega))
  have hP0 : va_P D classes [(a, e0)] H := fun k2 x hx2 => by
    have hk0 : k2 < 1 := (List.getElem?_eq_some_iff.mp hx2).1
    rw [show k2 = 0 by omega] at hx2
    cases hx2
    exact hP q0 _ he
  have hD0 : va_D (fun _ => True) [(a, e0)] := ⟨fun i j x y hi hj _ => by
    have h1 : i < 1 := (List.getElem?_eq_some_iff.mp hi).1
    have h2 : j < 1 := (List.getElem?_eq_some_iff.mp hj).1
    omega, fun _ _ _ => trivial⟩
  have hN : va_Nw (.methodLinkNest q.y.cls index q'.y RX6) s := by
    rcases hlnk with ⟨e1, e2, e3⟩ | ⟨e1, e2, e3⟩ | ⟨e1, e2, e3⟩ <;> rw [e1, e2, e3]
    · exact hK.2.2.2.1
    · exact hK.2.2.2.2.1
    · exact hK.2.2.2.2.2
  obtain ⟨o2, o4, o5, o6, o7, o8, o9⟩ := ok
  have hcb : va_CN (rmN q mc ms) s args q.y.cls index q'.y RX6 q'.cc q'.ml q'.rt q'.ws (rmN q' mc' ms') mc' ms' nn := va_cnB nn hts (ws_good o5) rfl rfl rfl hN (hts _ (List.mem_cons_of_mem _ o4)) o6 o7
  rw [o8] at hcb
  refine va_callv (va_runIN (host := RX6) (As := As) (rest := st) ⟨hx, hb, hml, hown, hts⟩ (hS' l) ⟨hcb, o9, hts _ (List.mem_cons_of_mem _ o2)⟩ ⟨fun a U g mk z => ⟨z.1, z.2.1, z.2.2.1, z.2.2.2.1.calling g mk a, z.2.2.2.2⟩, fun U hU hW => ⟨rfl, by rw [hU]; exact hz, by rw [hU]; exact hP0, KN.moved hW hK, hD0⟩⟩ rfl hn hl.1 rfl (lv_room hr) hd ⟨hc, hs⟩) hS (fun q _ z => hF q z) hF (fun u t H1 locs1 ht hvm hw hB hz1 hk1 hS1 => ?_)
  obtain ⟨g1, g2, g3, g4⟩ := hB
  rw [ht] at g1 g2
  have J := n_join hz hP hD he hk1 hF g2 g4
  exact kk p l e s m args below meth c H1 locs1 la C g1 J.1 J.2 hA hS1 hl
end NC
/-- new int[N][K] -/
def MnaRow : Prop := ∀ (D : va_G) (κ : ClassId × ClassId × ClassId) (A : Nat → Prop) (q : MI) (mc ms sz' pc sz k n : Nat) (ws' ws ws2 : va_W) (lv : List (Nat × Value)) (st : List Value) (index N K : Nat) (x y : Int32), Cond.classLink q.y.cls index "[[I" ∈ TB → decode q.cc pc = .ok (.multianewarray index 2, 4) → ¬ x < 0 → ¬ y < 0 → x.toNatClampNeg = N → y.toNatClampNeg = K → N ≤ 1000 → K ≤ 1000 → k + (1 + N) ≤ mc → n + (N + N * K) ≤ ms →
  ws ++ ((sz, .inl (κ.2.2, N, .inr (.inr (.inr (.inr (fun i => if i < N then some (sz + 1 + i) else none)))))) :: (List.range N).map (fun i => (sz + 1 + i, .inl (κ.1, K, .inl (fun _ => 0))))) = ws2 →
  GN D κ A q mc ms ws' sz' (pc + 4) lv (.ref sz :: st) ws2 (sz + 1 + N) (k + 1 + N) (n + N + N * K) → GN D κ A q mc ms ws' sz' pc lv (.int y :: .int x :: st) ws sz k n
