/-! the law from its entry -/
theorem AOA_spec {s : State} (h : AOA s) : ∃ (comp c : ClassId) (k : Class), s.vm.classes[c]? = some k ∧ k.kind = .array comp (.array .int) ∧ s.vm.findClass ("[" ++ (FieldType.array .int).toString) = some c := by
  unfold AOA Cond.before Cond.holds at h
  simp only [Cond.value] at h
  cases h1 : s.vm.findClass (FieldType.array .int).toString with
  | none => rw [h1] at h; simp at h
  | some comp =>
    rw [h1, Option.bind_some] at h
    generalize (Array.findIdx? _ s.vm.classes) = o at h
    cases o with
    | none => simp at h
    | some c =>
      rw [Option.bind_some] at h
      cases hk : s.vm.classes[c]? with
      | none => rw [hk] at h; simp at h
      | some k =>
        rw [hk, Option.map_some] at h
        cases hkind : k.kind with
        | array comp2 ty =>
          rw [hkind] at h
          simp at h
          exact ⟨comp2, c, k, hk, by rw [hkind, h.1], h.2⟩
        | _ => rw [hkind] at h; simp at h
theorem tb_lw {w : Cond} (h : w ∈ TB) : w ∈ lw_tbl := (List.mem_filter.mp h).1
def GW (p : Program) (l : Launch) (e : Env) (s : State) (m : MethodId) (below : List Frame) (meth : Method) (c : Code) (b : Nat) (D : va_G) (κ : ClassId × ClassId × ClassId) (pc : Nat) (lv : List (Nat × Value)) (st : List Value) (ws : va_W) (sz k n : Nat) : Prop :=
  ∀ (H : Heap) (locs : List Loc) (la : Array Slot), H.size = sz → va_P D classes ws H → va_D (fun q => s.heap.size ≤ q) ws → va_S (fun q => s.heap.size ≤ q) s.heap H locs → lv_has la 4 lv → W p l e room_1 s m #[Value.ref b] below meth c H locs k n (lw_Z below #[Value.ref b] s) (F0 m pc la st)
section WR
variable {p : Program} {l : Launch} {e : Env} {s : State} {m : MethodId} {below : List Frame} {meth : Method} {c : Code} {b L : Nat} {xs : Nat → Int32} {D : va_G} {κ : ClassId × ClassId × ClassId} {pc sz k n : Nat} {lv : List (Nat × Value)} {st : List Value} {ws : va_W}
theorem W_new {c0 index : Nat} {fs : List Value} (C : lw_At p s m meth c b L xs) (hK : KN D κ s) (hc0 : c0 < 8) (hcl : Cond.classLink R_law index (Rn c0) ∈ lw_tbl) (hin : Cond.instantiable (Rn c0) (nfn c0) ∈ TB) (hini : Cond.initialized (Rn c0) ∈ TB) (hfs : ∀ j, j < nfn c0 → defaultValue (tyn c0 j) = vp_V fs j) (hd : decode code pc = .ok (.new index, 3)) (hc : k + 1 ≤ room_1.cells) (hs : n + nfn c0 ≤ room_1.slots) (kk : GW p l e s m below meth c b D κ (pc + 3) lv (.ref sz :: st) (ws ++ [(sz, .inr (c0, fs))]) (sz + 1) (k + 1) (n + nfn c0)) : GW p l e s m below meth c b D κ pc lv st ws sz k n := by
  intro H locs la hz hP hD hS hl
  obtain ⟨hx, hb, hr, hml, hown, hts, hX, hbl, hlocks, hgv⟩ := id C
  have hKn := hK.1.1 c0 _ (cls_at hc0)
  refine W.newcK hx hb hown (hts _ hcl) (hts _ (tb_lw hin)) (hts _ (tb_lw hini)) rfl hd hc hs hKn.2.1 rfl fun H1 kC hkC e1 z1 o1 => ?_
  subst hz
  have hk : ∀ (k : Nat) (x : Nat × va_E), ws[k]? = some x → H1[x.1]? = H[x.1]? := fun k x hx => o1 x.1 ((hP k x hx).lt)
  refine kk H1 locs la z1 ((hP.kept hk).app (fun k x hx => ?_)) (hD.push hP rfl hS.1) ⟨Nat.le_trans hS.1 (by omega), fun x h1 h2 => (o1 x (Nat.lt_of_lt_of_le h1 hS.1)).trans (hS.2.1 x h1 h2), hS.2.2⟩ hl
  have hz : k < 1 := (List.getElem?_eq_some_iff.mp hx).1
  rw [show k = 0 by omega] at hx
  cases hx
  exact ⟨_, cls_at hc0, (u_born (tyn c0) hts (fun w hw => tb_lw (lays_in hc0 w hw)) hKn hkC e1 (tyn_ok hc0)).to hfs⟩
theorem W_dup {v : Value} (C : lw_At p s m meth c b L xs) (hd : decode code pc = .ok (.dup, 1)) (hv : v.category = 1) (kk : GW p l e s m below meth c b D κ (pc + 1) lv (v :: v :: st) ws sz k n) : GW p l e s m below meth c b D κ pc lv (v :: st) ws sz k n := by
  intro H locs la hz hP hD hS hl
  exact lv_dup C.1 C.2.1 hd hv (kk H locs la hz hP hD hS hl)
theorem W_astore {x : Nat} {j : Fin 4} {lv' : List (Nat × Value)} (C : lw_At p s m meth c b L xs) (hd : decode code pc = .ok (.astore_n j, 1)) (he : (j.val, Value.ref x) :: lv.filter (fun q => !(q.1 == j.val) && !(q.1 + 1 == j.val && q.2.category == 2)) = lv') (kk : GW p l e s m below meth c b D κ (pc + 1) lv' st ws sz k n) : GW p l e s m below meth c b D κ pc lv (.ref x :: st) ws sz k n := by
  intro H locs la hz hP hD hS hl
  exact lv_astore_n C.1 C.2.1 hd rfl hl j.isLt rfl (fun la' h' => kk H locs la' hz hP hD hS (by rw [← he]; exact h'))
theorem W_ctor {q' : MI} {mc' ms' index q0 a sz1 : Nat} {e0 e1 : va_E} {nw ws2 : va_W} (C : lw_At p s m meth c b L xs) (hK : KN D κ s) (hS' : SpecN D κ q' mc' ms' [.ref a] [(a, e0)] sz ((a, e1) :: nw) sz1) (ok : Cond.methodLink R_law index q'.y ∈ lw_tbl ∧ Cond.instanceMethod q'.y ∈ lw_tbl ∧ Cond.initialized q'.y.cls ∈ lw_tbl ∧ Cond.code q'.y q'.cc q'.ml q'.rt ∈ TB ∧ (q'.y.cls ≠ "java/lang/invoke/MethodHandle" ∧ q'.y.cls ≠ "java/lang/invoke/VarHandle" ∧ (parseMethodDescriptor q'.y.desc).map (fun d => d.parameters.length) = some 0) ∧ ((rmN q' mc' ms').frames + 1 ≤ room_1.frames ∧ 8 + (q'.ml + 11) + (rmN q' mc' ms').locals ≤ room_1.locals) ∧ q'.rt = none ∧ q'.y.name = "<init>") (hd : decode code pc = .ok (.invokespecial index, 3)) (he : ws[q0]? = some (a, e0)) (hr : (st.map fun v => v.category).sum ≤ 8) (hc : k + mc' ≤ room_1.cells) (hs : n + ms' ≤ room_1.slots) (hw : ws.set q0 (a, e1) ++ nw = ws2) (kk : GW p l e s m below meth c b D κ (pc + 3) lv st ws2 sz1 (k + mc') (n + ms')) : GW p l e s m below meth c b D κ pc lv (.ref a :: st) ws sz k n := by
  intro H locs la hz hP hD hS hl
  subst hw
  obtain ⟨hx, hb, hrt, hml, hown, hts, hX, hbl, hlocks, hgv⟩ := id C
  obtain ⟨o1, o2, o3, o4, o5, o6, o7, o8⟩ := ok
  have hF : ∀ q, va_A [(a, e0)] sz q → s.heap.size ≤ q := fun q z => by
    rcases z with ⟨k2, e2, h⟩ | h
    · have hk0 : k2 < 1 := (List.getElem?_eq_some_iff.mp h).1
      rw [show k2 = 0 by omega] at h
      have h3 : a = q := (Prod.mk.inj (Option.some.inj (show some (a, e0) = some (q, e2) from h))).1
      rw [← h3]
      exact hD.2 q0 _ he
    · exact Nat.le_trans hS.1 (by omega)
  have hP0 : va_P D classes [(a, e0)] H := fun k2 x hx2 => by
    have hk0 : k2 < 1 := (List.getElem?_eq_some_iff.mp hx2).1
    rw [show k2 = 0 by omega] at hx2
    cases hx2
    exact hP q0 _ he
  have hD0 : va_D (fun _ => True) [(a, e0)] := ⟨fun i j x y hi hj _ => by
    have h1 : i < 1 := (List.getElem?_eq_some_iff.mp hi).1
    have h2 : j < 1 := (List.getElem?_eq_some_iff.mp hj).1
    omega, fun _ _ _ => trivial⟩
  have hcb : CallB room_1 s #[Value.ref b] R_law index q'.y q'.cc q'.ml q'.rt q'.ws (rmN q' mc' ms') mc' ms' 0 := callB_of 0 hts (lw_good o4) rfl rfl rfl (hts _ o3) (hts _ o1) o5 o6
  rw [o7] at hcb
  refine va_callv (va_runI (As := []) (rest := st) ⟨hx, hb, hml, hown, hts⟩ (hS' l) ⟨hcb, o8, hts _ o2⟩ ⟨fun a U g mk z => ⟨z.1, z.2.1, z.2.2.1, z.2.2.2.1.calling g mk a, z.2.2.2.2⟩, fun U hU hW => ⟨rfl, by rw [hU]; exact hz, by rw [hU]; exact hP0, KN.moved hW hK, hD0⟩⟩ rfl rfl hl.1 rfl (lv_room hr) hd ⟨hc, hs⟩) hS (fun q _ z => hF q z) hF (fun u t H1 locs1 ht hvm hw hB hz1 hk1 hS1 => ?_)
  obtain ⟨g1, g2, g3, g4⟩ := hB
  rw [ht] at g1 g2
  have J := n_join hz hP hD he hk1 hF g2 g4
  exact kk H1 locs1 la g1 J.1 J.2 hS1 hl
end WR
theorem okc_6 : Cond.methodLink R_law 9 mX6_init.y ∈ lw_tbl ∧ Cond.instanceMethod mX6_init.y ∈ lw_tbl ∧ Cond.initialized mX6_init.y.cls ∈ lw_tbl ∧ Cond.code mX6_init.y mX6_init.cc mX6_init.ml mX6_init.rt ∈ TB ∧ (mX6_init.y.cls ≠ "java/lang/invoke/MethodHandle" ∧ mX6_init.y.cls ≠ "java/lang/invoke/VarHandle" ∧ (parseMethodDescriptor mX6_init.y.desc).map (fun d => d.parameters.length) = some 0) ∧ ((rmN mX6_init 70 4246).frames + 1 ≤ room_1.frames ∧ 8 + (mX6_init.ml + 11) + (rmN mX6_init 70 4246).locals ≤ room_1.locals) ∧ mX6_init.rt = none ∧ mX6_init.y.name = "<init>" := ⟨by decide +kernel, by decide +kernel, by decide +kernel, TB_in (by decide +kernel) (by decide +kernel), ⟨by decide +kernel, by decide +kernel, by decide +kernel⟩, ⟨Nat.le_of_ble_eq_true rfl, Nat.le_of_ble_eq_true rfl⟩, rfl, rfl⟩
theorem okc_7 : Cond.methodLink R_law 12 mX7_init.y ∈ lw_tbl ∧ Cond.instanceMethod mX7_init.y ∈ lw_tbl ∧ Cond.initialized mX7_init.y.cls ∈ lw_tbl ∧ Cond.code mX7_init.y mX7_init.cc mX7_init.ml mX7_init.rt ∈ TB ∧ (mX7_init.y.cls ≠ "java/lang/invoke/MethodHandle" ∧ mX7_init.y.cls ≠ "java/lang/invoke/VarHandle" ∧ (parseMethodDescriptor mX7_init.y.desc).map (fun d => d.parameters.length) = some 0) ∧ ((rmN mX7_init 24 19055).frames + 1 ≤ room_1.frames ∧ 8 + (mX7_init.ml + 11) + (rmN mX7_init 24 19055).locals ≤ room_1.locals) ∧ mX7_init.rt = none ∧ mX7_init.y.name = "<init>" := ⟨by decide +kernel, by decide +kernel, by decide +kernel, TB_in (by decide +kernel) (by decide +kernel), ⟨by decide +kernel, by decide +kernel, by decide +kernel⟩, ⟨Nat.le_of_ble_eq_true rfl, Nat.le_of_ble_eq_true rfl⟩, rfl, rfl⟩
theorem know {s : State} {args : Array Value} (hts : ∀ w ∈ lw_tbl, w.before args s = true) : ∃ (D : va_G) (κ : ClassId × ClassId × ClassId), KN D κ s := by
  obtain ⟨c0, i0, k0⟩ := u_known (C := Rn 0) (T := Tn 0) (N := nfn 0) (n := nfn 0) hts (fun w hw => tb_lw (lays_in (c := 0) (by decide) w hw)) (hts _ (tb_lw tbi_0.1))
  obtain ⟨c1, i1, k1⟩ := u_known (C := Rn 1) (T := Tn 1) (N := nfn 1) (n := nfn 1) hts (fun w hw => tb_lw (lays_in (c := 1) (by decide) w hw)) (hts _ (tb_lw tbi_1.1))
  obtain ⟨c2, i2, k2⟩ := u_known (C := Rn 2) (T := Tn 2) (N := nfn 2) (n := nfn 2) hts (fun w hw => tb_lw (lays_in (c := 2) (by decide) w hw)) (hts _ (tb_lw tbi_2.1))
  obtain ⟨c3, i3, k3⟩ := u_known (C := Rn 3) (T := Tn 3) (N := nfn 3) (n := nfn 3) hts (fun w hw => tb_lw (lays_in (c := 3) (by decide) w hw)) (hts _ (tb_lw tbi_3.1))
  obtain ⟨c4, i4, k4⟩ := u_known (C := Rn 4) (T := Tn 4) (N := nfn 4) (n := nfn 4) hts (fun w hw => tb_lw (lays_in (c := 4) (by decide) w hw)) (hts _ (tb_lw tbi_4.1))
  obtain ⟨c5, i5, k5⟩ := u_known (C := Rn 5) (T := Tn 5) (N := nfn 5) (n := nfn 5) hts (fun w hw => tb_lw (lays_in (c := 5) (by decide) w hw)) (hts _ (tb_lw tbi_5.1))
  obtain ⟨c6, i6, k6⟩ := u_known (C := Rn 6) (T := Tn 6) (N := nfn 6) (n := nfn 6) hts (fun w hw => tb_lw (lays_in (c := 6) (by decide) w hw)) (hts _ (tb_lw tbi_6.1))
  obtain ⟨c7, i7, k7⟩ := u_known (C := Rn 7) (T := Tn 7) (N := nfn 7) (n := nfn 7) hts (fun w hw => tb_lw (lays_in (c := 7) (by decide) w hw)) (hts _ (tb_lw tbi_7.1))
  obtain ⟨a1, b1, d1, f1, f2, f3⟩ := Cond.arrayClass_spec (hts (.arrayClass .int) (tb_lw tb_arr))
  have ho2 : va_AO RX2 s := va_AO.of (hts (.arrayOver (.object RX2)) (by decide +kernel))
  obtain ⟨d2, a2, b2, g1, g2, g3, g4, g5⟩ := Cond.arrayOver_spec ho2
  have ho3 : AOA s := hts (.arrayOver (.array .int)) (by decide +kernel)
  obtain ⟨d3, a3, b3, h1, h2, h3⟩ := AOA_spec ho3
  refine ⟨(fun k => [c0, c1, c2, c3, c4, c5, c6, c7].getD k c7, fun k => [i0, i1, i2, i3, i4, i5, i6, i7].getD k i7), (a1, a2, a3), ⟨fun k q hq => ?_, fun k q hq => ?_⟩, ho2, ho3, va_Nw.of rfl (hts (.methodLinkNest RX6 24 yX0_init RX6) (by decide +kernel)), va_Nw.of rfl (hts (.methodLinkNest RX1 11 yX4_init RX6) (by decide +kernel)), va_Nw.of rfl (hts (.methodLinkNest RX6 40 yX5_init RX6) (by decide +kernel))⟩
  · match k, hq with
    | 0, hq => cases hq; exact k0
    | 1, hq => cases hq; exact k1
    | 2, hq => cases hq; exact k2
    | 3, hq => cases hq; exact k3
    | 4, hq => cases hq; exact k4
    | 5, hq => cases hq; exact k5
    | 6, hq => cases hq; exact k6
    | 7, hq => cases hq; exact k7
    | k + 8, hq => simp [classes] at hq
  · match k, hq with
    | 0, hq => cases hq; exact ⟨fun n z => ⟨fun k h => (by cases h), b1, f2, d1, f3⟩, f1⟩
    | 1, hq => cases hq; exact ⟨fun n z => ⟨fun k h => (by cases h), b2, g3, d2, g4⟩, ⟨b2, d2, g3, g4, g1, g5⟩⟩
    | 2, hq => cases hq; exact ⟨fun n z => ⟨fun k h => (by cases h), b3, h1, d3, h2⟩, h3⟩
    | k + 3, hq => simp at hq
theorem whole_start0 (hM : MnaRow) {p : Program} {e : Env} {s : State} {m : MethodId} {below : List Frame} {meth : Method} {c : Code} (l : Launch) {b L : Nat} {xs : Nat → Int32} (hL : L ≤ 2048) (C0 : lw_At p s m meth c b L xs) : W p l e room_1 s m #[Value.ref b] below meth c s.heap [] 0 0 (lw_Z below #[Value.ref b] s) (entryFrame m ([Value.ref b] : List Value).toArray 4) := by
  obtain ⟨hx, hb, hr, hml, hown, hts, hX, hbl, hlocks, hgv⟩ := id C0
  obtain ⟨D, κ, hK⟩ := know hts
  have hs := flat_of_before _ hgv
  have hA : ∀ a : Nat, a < s.heap.size → ¬ (fun q : Nat => s.heap.size ≤ q) a := fun a h => Nat.not_le.mpr h
  obtain ⟨aL, eL, tL⟩ := va_Tof (tm := .static "GuidedAligner" "LETTERS" "[C") (ty := .char) (N := 4) (f := fun j => .int (ltr j)) (A := fun q => s.heap.size ≤ q) (by decide) (hs (.arrayOf (.static "GuidedAligner" "LETTERS" "[C") .char) (by decide +kernel)) (va_eqt (hs (.eq (.length (.static "GuidedAligner" "LETTERS" "[C")) (.int 4)) (by decide +kernel))) (fun j hj => by
      match j, hj with
      | 0, _ => exact va_eqt (hs (.eq (.elem (.static "GuidedAligner" "LETTERS" "[C") (.int 0)) (.int 65)) (by decide +kernel))
      | 1, _ => exact va_eqt (hs (.eq (.elem (.static "GuidedAligner" "LETTERS" "[C") (.int 1)) (.int 67)) (by decide +kernel))
      | 2, _ => exact va_eqt (hs (.eq (.elem (.static "GuidedAligner" "LETTERS" "[C") (.int 2)) (.int 71)) (by decide +kernel))
      | 3, _ => exact va_eqt (hs (.eq (.elem (.static "GuidedAligner" "LETTERS" "[C") (.int 3)) (.int 84)) (by decide +kernel))
      | j + 4, hj => exact absurd hj (by omega)) hA
  obtain ⟨aE, eE, tE⟩ := va_Tof (tm := .static "GuidedAligner" "EQUAL_WEIGHTS" "[I") (ty := .int) (N := 5) (f := fun _ => .int 1) (A := fun q => s.heap.size ≤ q) (by decide) (hs (.arrayOf (.static "GuidedAligner" "EQUAL_WEIGHTS" "[I") .int) (by decide +kernel)) (va_eqt (hs (.eq (.length (.static "GuidedAligner" "EQUAL_WEIGHTS" "[I")) (.int 5)) (by decide +kernel))) (fun j hj => by
      match j, hj with
      | 0, _ => exact va_eqt (hs (.eq (.elem (.static "GuidedAligner" "EQUAL_WEIGHTS" "[I") (.int 0)) (.int 1)) (by decide +kernel))
      | 1, _ => exact va_eqt (hs (.eq (.elem (.static "GuidedAligner" "EQUAL_WEIGHTS" "[I") (.int 1)) (.int 1)) (by decide +kernel))
      | 2, _ => exact va_eqt (hs (.eq (.elem (.static "GuidedAligner" "EQUAL_WEIGHTS" "[I") (.int 2)) (.int 1)) (by decide +kernel))
      | 3, _ => exact va_eqt (hs (.eq (.elem (.static "GuidedAligner" "EQUAL_WEIGHTS" "[I") (.int 3)) (.int 1)) (by decide +kernel))
      | 4, _ => exact va_eqt (hs (.eq (.elem (.static "GuidedAligner" "EQUAL_WEIGHTS" "[I") (.int 4)) (.int 1)) (by decide +kernel))
      | j + 5, hj => exact absurd hj (by omega)) hA
  have zL := va_Zof (hts (.laysStatic "GuidedAligner" "LETTERS" "[C") (by decide +kernel)) (hts (.initialized "GuidedAligner") (by decide +kernel)) eL hA
  have zE := va_Zof (hts (.laysStatic "GuidedAligner" "EQUAL_WEIGHTS" "[I") (by decide +kernel)) (hts (.initialized "GuidedAligner") (by decide +kernel)) eE hA
  have hsub : ∀ q, ownA (adF s.heap.size aL aE) q → s.heap.size ≤ q := fun q ⟨t, h1, h2⟩ => by rw [h2]; exact adF_ge h1
  have hKx : Kx D κ (adF s.heap.size aL aE) s := ⟨hK.1, fun i j hi hj h => adF_inj hi hj h, zL.narrow hsub, zE.narrow hsub, tL.narrow hsub, tE.narrow hsub, va_Nw.of rfl (hts (.methodLinkNest RX4 28 yX6_holds RX6) (by decide +kernel)), va_Nw.of rfl (hts (.methodLinkNest RX3 28 yX6_holds RX6) (by decide +kernel)), va_Nw.of rfl (hts (.methodLinkNest RX5 83 yX6_holds RX6) (by decide +kernel))⟩
  have C : CL p s m meth c b L xs D κ (adF s.heap.size aL aE) := ⟨C0, hKx, fun t ht => adF_ge ht⟩
  have hl := lv_entry ([.ref b]) (n := 4) (Nat.le_of_ble_eq_true rfl)
  rw [lg_entry_eq]
  generalize (lg_sl ([.ref b]) ++ List.replicate (4 - (lg_sl ([.ref b])).length) Slot.unset).toArray = la at hl ⊢
  have hl : lv_has la 4 [(0, .ref b)] := hl
  have key : GW p l e s m below meth c b D κ 0 [(0, .ref b)] [] [] s.heap.size 0 0 := by
    generalize s.heap.size = sz at *
    refine W_new (c0 := 6) (index := 7) (fs := [.null, .null, .null, .null, .null, .null, .null, .int 0, .int 0, .int 0, .int 0, .int 0]) C0 hK (by decide) (by decide +kernel) tbi_6.1 tbi_6.2 dfl_6 (by decide +kernel) (Nat.le_of_ble_eq_true rfl) (Nat.le_of_ble_eq_true rfl) ?_
    refine W_dup C0 (by decide +kernel) rfl ?_
    refine W_ctor (index := 9) (q0 := 0) (ws2 := [(sz, .inr (6, [.ref (sz + 1), .ref ((sz + 1) + 11), .ref ((sz + 1) + 13), .ref ((sz + 1) + 15), .ref ((sz + 1) + 27), .ref ((sz + 1) + 46), .ref ((sz + 1) + 58), .int 0, .int 0, .int 0, .int 0, .int 0])), ((sz + 1), .inl (κ.2.1, 5, .inr (.inr (.inr (.inr (va_up (va_up (va_up (va_up (va_up (fun _ => none) 0 (some ((sz + 1) + 1))) 1 (some ((sz + 1) + 3))) 2 (some ((sz + 1) + 5))) 3 (some ((sz + 1) + 7))) 4 (some ((sz + 1) + 9)))))))), ((sz + 1) + 1, .inr (2, [.ref ((sz + 1) + 2), .int 0])), ((sz + 1) + 2, .inl (κ.1, 12, .inl (fun _ => 0))), ((sz + 1) + 3, .inr (2, [.ref ((sz + 1) + 4), .int 0])), ((sz + 1) + 4, .inl (κ.1, 12, .inl (fun _ => 0))), ((sz + 1) + 5, .inr (2, [.ref ((sz + 1) + 6), .int 0])), ((sz + 1) + 6, .inl (κ.1, 12, .inl (fun _ => 0))), ((sz + 1) + 7, .inr (2, [.ref ((sz + 1) + 8), .int 0])), ((sz + 1) + 8, .inl (κ.1, 12, .inl (fun _ => 0))), ((sz + 1) + 9, .inr (2, [.ref ((sz + 1) + 10), .int 0])), ((sz + 1) + 10, .inl (κ.1, 12, .inl (fun _ => 0))), ((sz + 1) + 11, .inr (2, [.ref ((sz + 1) + 12), .int 0])), ((sz + 1) + 12, .inl (κ.1, 12, .inl (fun _ => 0))), ((sz + 1) + 13, .inr (0, [.ref ((sz + 1) + 14), .int (nI 10), .int (nI 1)])), ((sz + 1) + 14, .inl (κ.1, 16, .inl (upd (upd (upd (upd (upd (upd (upd (upd (upd (upd (upd (upd (upd (upd (upd (upd (fun _ => 0) 0 (nI 5)) 1 ((-4))) 2 ((-4))) 3 ((-4))) 4 ((-4))) 5 (nI 5)) 6 ((-4))) 7 ((-4))) 8 ((-4))) 9 ((-4))) 10 (nI 5)) 11 ((-4))) 12 ((-4))) 13 ((-4))) 14 ((-4))) 15 (nI 5)))), ((sz + 1) + 15, .inr (1, [.ref ((sz + 1) + 13), .ref ((sz + 1) + 16), .ref ((sz + 1) + 19), .ref ((sz + 1) + 22), .ref ((sz + 1) + 26), .int 0, .int 0, .int 0, .int 0, .int 0])), ((sz + 1) + 16, .inr (4, [.ref ((sz + 1) + 17), .ref ((sz + 1) + 18), .int 0, .int 0])), ((sz + 1) + 17, .inl (κ.1, 192, .inl (fun _ => 0))), ((sz + 1) + 18, .inl (κ.1, 48, .inl (fun _ => 0))), ((sz + 1) + 19, .inr (4, [.ref ((sz + 1) + 20), .ref ((sz + 1) + 21), .int 0, .int 0])), ((sz + 1) + 20, .inl (κ.1, 192, .inl (fun _ => 0))), ((sz + 1) + 21, .inl (κ.1, 48, .inl (fun _ => 0))), ((sz + 1) + 22, .inl (κ.2.2, 3, .inr (.inr (.inr (.inr (fun i => if i < 3 then some ((sz + 1) + 23 + i) else none)))))), ((sz + 1) + 23, .inl (κ.1, 925, .inl (fun _ => 0))), ((sz + 1) + 24, .inl (κ.1, 925, .inl (fun _ => 0))), ((sz + 1) + 25, .inl (κ.1, 925, .inl (fun _ => 0))), ((sz + 1) + 26, .inl (κ.1, 60, .inl (fun _ => 0))), ((sz + 1) + 27, .inr (5, [.ref ((sz + 1) + 28), .ref ((sz + 1) + 29), .ref ((sz + 1) + 30), .ref ((sz + 1) + 31), .ref ((sz + 1) + 32), .ref ((sz + 1) + 33), .ref ((sz + 1) + 34), .ref ((sz + 1) + 35), .ref ((sz + 1) + 36), .int 0, .int 0, .int 0])), ((sz + 1) + 28, .inl (κ.1, 9, .inl (fun _ => 0))), ((sz + 1) + 29, .inl (κ.1, 9, .inl (fun _ => 0))), ((sz + 1) + 30, .inl (κ.1, 9, .inl (fun _ => 0))), ((sz + 1) + 31, .inl (κ.1, 9, .inl (fun _ => 0))), ((sz + 1) + 32, .inl (κ.1, 9, .inl (fun _ => 0))), ((sz + 1) + 33, .inl (κ.1, 9, .inl (fun _ => 0))), ((sz + 1) + 34, .inl (κ.1, 9, .inl (fun _ => 0))), ((sz + 1) + 35, .inl (κ.1, 5, .inl (fun _ => 0))), ((sz + 1) + 36, .inl (κ.2.2, 9, .inr (.inr (.inr (.inr (fun i => if i < 9 then some ((sz + 1) + 37 + i) else none)))))), ((sz + 1) + 37, .inl (κ.1, 9, .inl (fun _ => 0))), ((sz + 1) + 38, .inl (κ.1, 9, .inl (fun _ => 0))), ((sz + 1) + 39, .inl (κ.1, 9, .inl (fun _ => 0))), ((sz + 1) + 40, .inl (κ.1, 9, .inl (fun _ => 0))), ((sz + 1) + 41, .inl (κ.1, 9, .inl (fun _ => 0))), ((sz + 1) + 42, .inl (κ.1, 9, .inl (fun _ => 0))), ((sz + 1) + 43, .inl (κ.1, 9, .inl (fun _ => 0))), ((sz + 1) + 44, .inl (κ.1, 9, .inl (fun _ => 0))), ((sz + 1) + 45, .inl (κ.1, 9, .inl (fun _ => 0))), ((sz + 1) + 46, .inr (3, [.ref ((sz + 1) + 47)])), ((sz + 1) + 47, .inl (κ.2.1, 5, .inr (.inr (.inr (.inr (va_up (va_up (va_up (va_up (va_up (fun _ => none) 0 (some ((sz + 1) + 48))) 1 (some ((sz + 1) + 50))) 2 (some ((sz + 1) + 52))) 3 (some ((sz + 1) + 54))) 4 (some ((sz + 1) + 56)))))))), ((sz + 1) + 48, .inr (2, [.ref ((sz + 1) + 49), .int 0])), ((sz + 1) + 49, .inl (κ.1, 60, .inl (fun _ => 0))), ((sz + 1) + 50, .inr (2, [.ref ((sz + 1) + 51), .int 0])), ((sz + 1) + 51, .inl (κ.1, 60, .inl (fun _ => 0))), ((sz + 1) + 52, .inr (2, [.ref ((sz + 1) + 53), .int 0])), ((sz + 1) + 53, .inl (κ.1, 60, .inl (fun _ => 0))), ((sz + 1) + 54, .inr (2, [.ref ((sz + 1) + 55), .int 0])), ((sz + 1) + 55, .inl (κ.1, 60, .inl (fun _ => 0))), ((sz + 1) + 56, .inr (2, [.ref ((sz + 1) + 57), .int 0])), ((sz + 1) + 57, .inl (κ.1, 60, .inl (fun _ => 0))), ((sz + 1) + 58, .inr (3, [.ref ((sz + 1) + 59)])), ((sz + 1) + 59, .inl (κ.2.1, 5, .inr (.inr (.inr (.inr (va_up (va_up (va_up (va_up (va_up (fun _ => none) 0 (some ((sz + 1) + 60))) 1 (some ((sz + 1) + 62))) 2 (some ((sz + 1) + 64))) 3 (some ((sz + 1) + 66))) 4 (some ((sz + 1) + 68)))))))), ((sz + 1) + 60, .inr (2, [.ref ((sz + 1) + 61), .int 0])), ((sz + 1) + 61, .inl (κ.1, 60, .inl (fun _ => 0))), ((sz + 1) + 62, .inr (2, [.ref ((sz + 1) + 63), .int 0])), ((sz + 1) + 63, .inl (κ.1, 60, .inl (fun _ => 0))), ((sz + 1) + 64, .inr (2, [.ref ((sz + 1) + 65), .int 0])), ((sz + 1) + 65, .inl (κ.1, 60, .inl (fun _ => 0))), ((sz + 1) + 66, .inr (2, [.ref ((sz + 1) + 67), .int 0])), ((sz + 1) + 67, .inl (κ.1, 60, .inl (fun _ => 0))), ((sz + 1) + 68, .inr (2, [.ref ((sz + 1) + 69), .int 0])), ((sz + 1) + 69, .inl (κ.1, 60, .inl (fun _ => 0)))]) C0 hK (c_X6 hM (D := D) (κ := κ) (h0 := sz) (sz := sz + 1)) okc_6 (by decide +kernel) rfl (Nat.le_of_ble_eq_true rfl) (Nat.le_of_ble_eq_true rfl) (Nat.le_of_ble_eq_true rfl) rfl ?_
    refine W_astore (j := 1) (lv' := [(1, .ref sz), (0, .ref b)]) C0 (by decide +kernel) rfl ?_
    refine W_new (c0 := 7) (index := 10) (fs := [.int 0, .null, .null, .int 0, .null, .null, .int 0, .int 0, .int 0, .int 0, .int 0, .int 0, .null, .null, .null, .null, .null, .null, .null, .null, .null, .null, .null, .int 0, .null, .int 0, .int 0, .int 0, .int 0, .null, .null, .int 0, .null, .null, .null, .null, .null, .null, .long 0, .long 0]) C0 hK (by decide) (by decide +kernel) tbi_7.1 tbi_7.2 dfl_7 (by decide +kernel) (Nat.le_of_ble_eq_true rfl) (Nat.le_of_ble_eq_true rfl) ?_
    refine W_dup C0 (by decide +kernel) rfl ?_
    refine W_ctor (index := 12) (q0 := 71) (ws2 := allW κ sz) C0 hK (c_X7 (D := D) (κ := κ) (h0 := sz + 71) (sz := sz + 72)) okc_7 (by decide +kernel) rfl (Nat.le_of_ble_eq_true rfl) (Nat.le_of_ble_eq_true rfl) (Nat.le_of_ble_eq_true rfl) rfl ?_
    refine W_astore (j := 2) (lv' := [(2, .ref (sz + 71)), (1, .ref sz), (0, .ref b)]) C0 (by decide +kernel) rfl ?_
    intro H locs la hz hP hD hS hl
    have dA : decode code 16 = .ok (.iconst 0, 1) := (by decide +kernel)
    have dB : decode code 17 = .ok (.istore_n 3, 1) := (by decide +kernel)
    refine lv_iconst (n := 0) (v := nI 0) (pc := 16) hx hb dA (by decide +kernel) ?_
    refine lv_istore_n (pc := 17) (lv' := [(3, .int (nI 0)), (2, .ref (sz + 71)), (1, .ref sz), (0, .ref b)]) hx hb dB rfl hl (by decide) rfl (fun la hl => ?_)
    refine va_forget (fun q hq => hS.2.2 q hq) ?_
    refine L_loop C hL _ 0 M0 rfl (by omega) Inv_0 H [] la (allW_Wd hP) ⟨hS.1, fun q h1 h2 => hS.2.1 q h1 (Nat.not_le.mpr h1), fun q hq => absurd hq List.not_mem_nil⟩ (lv_sub hl [0, 3, 2, 1] rfl)
  exact key s.heap [] la rfl (fun k q h => by simp at h) ⟨fun i j x y h => by simp at h, fun k x h => by simp at h⟩ va_S.rf hl
