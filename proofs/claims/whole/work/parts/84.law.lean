/-! THE LAW'S BODY: rows -/
def CL (p : Program) (s : State) (m : MethodId) (meth : Method) (c : Code) (b L : Nat) (xs : Nat → Int32) (D : va_G) (κ : ClassId × ClassId × ClassId) (ad : Nat → Nat) : Prop := lw_At p s m meth c b L xs ∧ Kx D κ ad s ∧ (∀ t, t < 96 → s.heap.size ≤ ad t)
def GL (p : Program) (l : Launch) (e : Env) (s : State) (m : MethodId) (below : List Frame) (meth : Method) (c : Code) (b : Nat) (D : va_G) (κ : ClassId × ClassId × ClassId) (ad : Nat → Nat) (pc : Nat) (lv : List (Nat × Value)) (st : List Value) (M : Mem) : Prop :=
  ∀ (H : Heap) (locs : List Loc) (la : Array Slot), Wd D κ ad M H → va_S (ownA ad) s.heap H locs → lv_has la 4 lv → W p l e room_1 s m #[Value.ref b] below meth c H locs 96 23353 (lw_Z below #[Value.ref b] s) (F0 m pc la st)
def okLw (q' : MI) (index n : Nat) : Prop := Cond.methodLink R_law index q'.y ∈ lw_tbl ∧ Cond.instanceMethod q'.y ∈ lw_tbl ∧ Cond.selects q'.y.cls q'.y q'.y ∈ lw_tbl ∧ Cond.initialized q'.y.cls ∈ lw_tbl ∧ Cond.code q'.y q'.cc q'.ml q'.rt ∈ TB ∧
  (q'.y.cls ≠ "java/lang/invoke/MethodHandle" ∧ q'.y.cls ≠ "java/lang/invoke/VarHandle" ∧ (parseMethodDescriptor q'.y.desc).map (fun d => d.parameters.length) = some n) ∧ q'.rm.frames + 1 ≤ room_1.frames ∧ 8 + (q'.ml + 11) + q'.rm.locals ≤ room_1.locals
theorem lw_good {q' : MI} (h : Cond.code q'.y q'.cc q'.ml q'.rt ∈ TB) : GoodIn lw_tbl q'.ws := by
  intro w hw
  have hb : w ∈ TB := by
    rcases List.mem_cons.mp hw with rfl | hw
    · exact h
    · exact hw
  exact ⟨(List.mem_filter.mp hb).1, good_of_word (List.mem_filter.mp hb).2⟩
section LR
variable {p : Program} {l : Launch} {e : Env} {s : State} {m : MethodId} {below : List Frame} {meth : Method} {c : Code} {b L : Nat} {xs : Nat → Int32} {D : va_G} {κ : ClassId × ClassId × ClassId} {ad : Nat → Nat} {pc : Nat} {lv : List (Nat × Value)} {st : List Value} {M : Mem}
theorem L_aload {x : Nat} {j : Fin 4} (i : Nat) (C : CL p s m meth c b L xs D κ ad) (hd : decode code pc = .ok (.aload_n j, 1)) (hv : lv[i]? = some (j.val, .ref x)) (k : GL p l e s m below meth c b D κ ad (pc + 1) lv (.ref x :: st) M) : GL p l e s m below meth c b D κ ad pc lv st M := by
  intro H locs la hW hS hl
  exact lv_aload_n C.1.1 C.1.2.1 hd rfl (lv_at hl i hv) (k H locs la hW hS hl)
theorem L_iload {x : Int32} {j : Fin 4} (i : Nat) (C : CL p s m meth c b L xs D κ ad) (hd : decode code pc = .ok (.iload_n j, 1)) (hv : lv[i]? = some (j.val, .int x)) (k : GL p l e s m below meth c b D κ ad (pc + 1) lv (.int x :: st) M) : GL p l e s m below meth c b D κ ad pc lv st M := by
  intro H locs la hW hS hl
  exact lv_iload_n C.1.1 C.1.2.1 hd rfl (lv_at hl i hv) (k H locs la hW hS hl)
theorem L_iconst {x : Int} {v : Int32} (C : CL p s m meth c b L xs D κ ad) (hd : decode code pc = .ok (.iconst x, 1)) (hv : Int32.ofInt x = v) (k : GL p l e s m below meth c b D κ ad (pc + 1) lv (.int v :: st) M) : GL p l e s m below meth c b D κ ad pc lv st M := by
  intro H locs la hW hS hl
  exact lv_iconst C.1.1 C.1.2.1 hd hv (k H locs la hW hS hl)
theorem L_bipush {x : Int} {v : Int32} (C : CL p s m meth c b L xs D κ ad) (hd : decode code pc = .ok (.bipush x, 2)) (hv : (Int8.ofInt x).toInt32 = v) (k : GL p l e s m below meth c b D κ ad (pc + 2) lv (.int v :: st) M) : GL p l e s m below meth c b D κ ad pc lv st M := by
  intro H locs la hW hS hl
  exact lv_bipush C.1.1 C.1.2.1 hd hv (k H locs la hW hS hl)
theorem L_iadd {x y : Int32} (C : CL p s m meth c b L xs D κ ad) (hd : decode code pc = .ok (.iadd, 1)) (k : GL p l e s m below meth c b D κ ad (pc + 1) lv (.int (x + y) :: st) M) : GL p l e s m below meth c b D κ ad pc lv (.int y :: .int x :: st) M := by
  intro H locs la hW hS hl
  exact lv_iadd C.1.1 C.1.2.1 hd (k H locs la hW hS hl)
theorem L_isub {x y : Int32} (C : CL p s m meth c b L xs D κ ad) (hd : decode code pc = .ok (.isub, 1)) (k : GL p l e s m below meth c b D κ ad (pc + 1) lv (.int (x - y) :: st) M) : GL p l e s m below meth c b D κ ad pc lv (.int y :: .int x :: st) M := by
  intro H locs la hW hS hl
  exact lv_isub C.1.1 C.1.2.1 hd (k H locs la hW hS hl)
theorem L_iand {x y : Int32} (C : CL p s m meth c b L xs D κ ad) (hd : decode code pc = .ok (.iand, 1)) (k : GL p l e s m below meth c b D κ ad (pc + 1) lv (.int (x &&& y) :: st) M) : GL p l e s m below meth c b D κ ad pc lv (.int y :: .int x :: st) M := by
  intro H locs la hW hS hl
  exact lv_iand C.1.1 C.1.2.1 hd (k H locs la hW hS hl)
theorem L_i2c {x : Int32} (C : CL p s m meth c b L xs D κ ad) (hd : decode code pc = .ok (.i2c, 1)) (k : GL p l e s m below meth c b D κ ad (pc + 1) lv (.int (x.toUInt32 % 65536).toInt32 :: st) M) : GL p l e s m below meth c b D κ ad pc lv (.int x :: st) M := by
  intro H locs la hW hS hl
  exact lv_i2c C.1.1 C.1.2.1 hd rfl (k H locs la hW hS hl)
theorem L_goto {off : Int} {tgt : Nat} (C : CL p s m meth c b L xs D κ ad) (hd : decode code pc = .ok (.goto off, 3)) (ht : (pc : Int) + off = (tgt : Int)) (k : GL p l e s m below meth c b D κ ad tgt lv st M) : GL p l e s m below meth c b D κ ad pc lv st M := by
  intro H locs la hW hS hl
  exact lv_goto C.1.1 C.1.2.1 hd ht (k H locs la hW hS hl)
theorem L_if_eq {x : Int32} {off : Int} {tgt : Nat} (C : CL p s m meth c b L xs D κ ad) (hd : decode code pc = .ok (.ifCond .eq off, 3)) (ht : (pc : Int) + off = (tgt : Int)) (kt : x = 0 → GL p l e s m below meth c b D κ ad tgt lv st M) (kf : ¬ x = 0 → GL p l e s m below meth c b D κ ad (pc + 3) lv st M) : GL p l e s m below meth c b D κ ad pc lv (.int x :: st) M := by
  intro H locs la hW hS hl
  exact lv_if_eq C.1.1 C.1.2.1 hd ht (fun h => kt h H locs la hW hS hl) (fun h => kf h H locs la hW hS hl)
/-- two answers that are the same -/
theorem L_same {x : Int32} {off : Int} {tgt : Nat} (C : CL p s m meth c b L xs D κ ad) (hd : decode code pc = .ok (.if_icmp .eq off, 3)) (ht : (pc : Int) + off = (tgt : Int)) (k : GL p l e s m below meth c b D κ ad tgt lv st M) : GL p l e s m below meth c b D κ ad pc lv (.int x :: .int x :: st) M := by
  intro H locs la hW hS hl
  exact lv_icmp_eq C.1.1 C.1.2.1 hd ht (fun _ => k H locs la hW hS hl) (fun h => absurd rfl h)
theorem L_gt {x y : Int32} {off : Int} {tgt : Nat} (C : CL p s m meth c b L xs D κ ad) (hd : decode code pc = .ok (.if_icmp .gt off, 3)) (ht : (pc : Int) + off = (tgt : Int)) (kt : y < x → GL p l e s m below meth c b D κ ad tgt lv st M) (kf : ¬ y < x → GL p l e s m below meth c b D κ ad (pc + 3) lv st M) : GL p l e s m below meth c b D κ ad pc lv (.int y :: .int x :: st) M := by
  intro H locs la hW hS hl
  exact lv_icmp_gt C.1.1 C.1.2.1 hd ht (fun h => kt h H locs la hW hS hl) (fun h => kf h H locs la hW hS hl)
theorem L_iinc {x : Int32} {j i : Nat} {d : Int} {v : Int32} {lv' : List (Nat × Value)} (C : CL p s m meth c b L xs D κ ad) (hd : decode code pc = .ok (.iinc j d, 3)) (hx : lv[i]? = some (j, .int x)) (hv : Int32.ofInt d = v) (hn : j < 4) (he : (j, Value.int (x + v)) :: lv.filter (fun q => !(q.1 == j) && !(q.1 + 1 == j && q.2.category == 2)) = lv') (k : GL p l e s m below meth c b D κ ad (pc + 3) lv' st M) : GL p l e s m below meth c b D κ ad pc lv st M := by
  intro H locs la hW hS hl
  exact lv_iinc C.1.1 C.1.2.1 hd hl hx (v := x + v) (by rw [hv]) hn rfl (fun la' h' => k H locs la' hW hS (by rw [← he]; exact h'))
theorem L_not (C : CL p s m meth c b L xs D κ ad) : ¬ ownA ad b := fun ⟨t, h1, h2⟩ => by
  have a := C.2.2 t h1
  have bl := C.1.2.2.2.2.2.2.2.1
  omega
theorem L_len (C : CL p s m meth c b L xs D κ ad) (hd : decode code pc = .ok (.arraylength, 1)) (k : GL p l e s m below meth c b D κ ad (pc + 1) lv (.int (nI L) :: st) M) : GL p l e s m below meth c b D κ ad pc lv (.ref b :: st) M := by
  intro H locs la hW hS hl
  exact va_slen C.1.1 C.1.2.1 C.1.2.2.2.2.2.2.1 C.1.2.2.2.2.2.2.2.1 (L_not C) hS hd (k H locs la hW hS hl)
theorem L_read {i : Int32} {j : Nat} (C : CL p s m meth c b L xs D κ ad) (hd : decode code pc = .ok (.iaload, 1)) (hi : i = nI j) (hj : j < L) (hL : L ≤ 2048) (k : GL p l e s m below meth c b D κ ad (pc + 1) lv (.int (xs j) :: st) M) : GL p l e s m below meth c b D κ ad pc lv (.int i :: .ref b :: st) M := by
  intro H locs la hW hS hl
  subst hi
  refine va_sld C.1.1 C.1.2.1 C.1.2.2.2.2.2.2.1 C.1.2.2.2.2.2.2.2.1 (L_not C) hS (vp_in_nI hj (by omega)) hd ?_
  rw [nI_clamp (by omega)]
  exact k H locs la hW hS hl
theorem L_tab {x : Int32} {dflt lo hi : Int} {offs : Array Int} {len : Nat} {off : Int} {tgt : Nat} (C : CL p s m meth c b L xs D κ ad) (hd : decode code pc = .ok (.tableswitch dflt lo hi offs, len)) (h1 : ¬ x.toInt < lo) (h2 : ¬ hi < x.toInt) (ho : offs[(x.toInt - lo).toNat]? = some off) (ht : (pc : Int) + off = (tgt : Int)) (k : GL p l e s m below meth c b D κ ad tgt lv st M) : GL p l e s m below meth c b D κ ad pc lv (.int x :: st) M := by
  intro H locs la hW hS hl
  exact lv_tableIn C.1.1 C.1.2.1 hd h1 h2 ho ht (k H locs la hW hS hl)
theorem L_tabO {x : Int32} {dflt lo hi : Int} {offs : Array Int} {len : Nat} {tgt : Nat} (C : CL p s m meth c b L xs D κ ad) (hd : decode code pc = .ok (.tableswitch dflt lo hi offs, len)) (h : x.toInt < lo ∨ hi < x.toInt) (ht : (pc : Int) + dflt = (tgt : Int)) (k : GL p l e s m below meth c b D κ ad tgt lv st M) : GL p l e s m below meth c b D κ ad pc lv (.int x :: st) M := by
  intro H locs la hW hS hl
  exact lv_tableOut C.1.1 C.1.2.1 hd h ht (k H locs la hW hS hl)
theorem L_end (C : CL p s m meth c b L xs D κ ad) (hd1 : decode code pc = .ok (.iconst 1, 1)) (hd2 : decode code (pc + 1) = .ok (.ireturn, 1)) : GL p l e s m below meth c b D κ ad pc lv [] M := by
  intro H locs la hW hS hl
  refine lv_iconst (v := 1) C.1.1 C.1.2.1 hd1 (by decide) ?_
  refine va_forget (fun q hq => ?_) ?_
  · obtain ⟨t, h1, h2⟩ := hS.2.2 q hq
    rw [h2]
    exact C.2.2 t h1
  refine W.widen (k := 600000) (n := 7302250) (Nat.le_of_ble_eq_true rfl) (Nat.le_of_ble_eq_true rfl) ?_
  exact lw_ret C.1.1 C.1.2.1 C.1.2.2.1 C.1.2.2.2.2.2.2.2.2.1 hd2
theorem L_call {q' : MI} {index n t c0 : Nat} {As st0 : List Value} {P' : Option Value → Mem → Prop} (C : CL p s m meth c b L xs D κ ad) (hS' : Spec q' (.ref t :: As) M P') (ok : okLw q' index n) (hd : decode code pc = .ok (.invokevirtual index, 3)) (hn : As.length = n) (hAs : As.map (cv ad) = As) (hk : kd t = c0) (hc : c0 < 8) (hcl : Rn c0 = q'.y.cls) (hr : (st.map fun v => v.category).sum ≤ 8) (hst : st0 = As.reverse ++ .ref (ad t) :: st)
    (kk : ∀ (r : Option Value) (M' : Mem), P' r M' → GL p l e s m below meth c b D κ ad (pc + 3) lv ((r.map (cv ad)).toList ++ st) M') : GL p l e s m below meth c b D κ ad pc lv st0 M := by
  intro H locs la hW hS hl
  obtain ⟨⟨hx, hb, hrt, hml, hown, hts, hX, hbl, hlk, hgv⟩, hK, hge⟩ := id C
  obtain ⟨o1, o2, o3, o4, o5, o6, o7⟩ := ok
  obtain ⟨h96, cell, q1, q2, q3, q4⟩ := obj_at hW hk hc
  obtain ⟨hSl, hfc, kC, hkC, hkind⟩ := hK.1.1 c0 _ (cls_at hc)
  have hpre := pre_of (av := .ref t :: As) hW hS hK
  have hcb : CallB room_1 s #[Value.ref b] R_law index q'.y q'.cc q'.ml q'.rt q'.ws q'.rm 0 0 n := callB_of n hts (lw_good o5) rfl rfl rfl (hts _ o4) (hts _ o1) o6 o7
  have hrun := W.runV (p := p) (e := e) (below := below) (meth := meth) (H := H) (locs := locs) (cells := 96) (slots := 23353) (As := As.map (cv ad)) (rest := st) (g := F0 m pc la st0) (b := ad t) ⟨hx, hb, hml, hown, hts⟩ (hS' l D κ ad) (C := q'.y.cls) (n := n) ⟨hcb, hts _ o2, hts _ o3⟩
    ⟨hpre.1, ⟨cell, q1, by rw [q3]; rfl, by rw [q2, ← hcl]; exact hfc⟩, fun U hU hw => hpre.2 U hU hw⟩ rfl (by rw [List.length_map]; exact hn) hl.1 (by rw [hst, hAs]) (lv_room hr) hd ⟨Nat.le_of_ble_eq_true rfl, Nat.le_of_ble_eq_true rfl⟩
  intro T hT X
  obtain ⟨v, st₀, t2, T', Lc, h0, X', hL, e1, ⟨⟨r, M', hv, hp, hW1⟩, hF⟩, sg⟩ := hrun T hT X
  cases hv
  obtain ⟨t3, a1, b1⟩ := kk r M' hp t2.heap (locs ++ Lc) la hW1 ⟨Nat.le_trans hS.1 (by rw [← h0]; exact hF.1), fun x h1 h2 => by rw [hF.2 x (by rw [h0]; exact Nat.lt_of_lt_of_le h1 hS.1) h2, h0]; exact hS.2.1 x h1 h2, fun x hx => (List.mem_append.mp hx).elim (hS.2.2 x) (hL x)⟩ hl T' e1 X'
  exact ⟨t3, sg t3 a1, b1⟩
end LR
