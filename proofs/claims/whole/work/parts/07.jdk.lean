/-! the JDK's members that the class calls: Math.min, Math.max, System.arraycopy -/
section GJ
variable {q : MI} {pc : Nat} {ls : List (Option Value)} {st : List Value} {M : Mem} {Post : Option Value → Mem → Prop}
theorem cat_sum (ad : Nat → Nat) (st : List Value) : ((st.map (cv ad)).map fun v => v.category).sum = (st.map fun v => v.category).sum := by
  rw [List.map_map, show ((fun v : Value => v.category) ∘ cv ad) = (fun v : Value => v.category) from funext fun v => cv_cat ad v]
theorem g_mmax {index : Nat} {x y : Int32} (hl : Cond.methodLink q.y.cls index Lib.Math.max.name ∈ TB) (hs : Cond.static Lib.Math.max.name ∈ TB) (hi : Cond.initialized "java/lang/Math" ∈ TB) (hc : Cond.code Lib.Math.max.name Lib.Math.max.code 2 (some .int) ∈ TB) (hf : 1 ≤ q.rm.frames) (hr : (st.map fun v => v.category).sum + 13 ≤ q.rm.locals) (hd : decode q.cc pc = .ok (.invokestatic index, 3))
    (kk : G q (pc + 3) ls (.int (if x < y then y else x) :: st) M Post) : G q pc ls (.int y :: .int x :: st) M Post := by
  intro D κ ad p l e s m args below meth cd H locs la C hW hS hla
  have hts : ∀ w ∈ TB, w.before args s = true := fun w h => C.2.2.2.2.2.1 w (List.mem_cons_of_mem _ h)
  exact va_mmax C.1 C.2.1 (C.2.2.2.1.trans hla.1.symm) C.2.2.2.2.1 (hts _ hl) (hts _ hs) (hts _ hi) (hts _ hc) hf (by rw [cat_sum]; exact hr) (Nat.le_refl 0) (Nat.le_refl 0) hd (kk D κ ad p l e s m args below meth cd H locs la C hW hS hla)
theorem g_mmin {index : Nat} {x y : Int32} (hl : Cond.methodLink q.y.cls index Lib.Math.min.name ∈ TB) (hs : Cond.static Lib.Math.min.name ∈ TB) (hi : Cond.initialized "java/lang/Math" ∈ TB) (hc : Cond.code Lib.Math.min.name Lib.Math.min.code 2 (some .int) ∈ TB) (hf : 1 ≤ q.rm.frames) (hr : (st.map fun v => v.category).sum + 13 ≤ q.rm.locals) (hd : decode q.cc pc = .ok (.invokestatic index, 3))
    (kk : G q (pc + 3) ls (.int (if y < x then y else x) :: st) M Post) : G q pc ls (.int y :: .int x :: st) M Post := by
  intro D κ ad p l e s m args below meth cd H locs la C hW hS hla
  have hts : ∀ w ∈ TB, w.before args s = true := fun w h => C.2.2.2.2.2.1 w (List.mem_cons_of_mem _ h)
  exact va_mmin C.1 C.2.1 (C.2.2.2.1.trans hla.1.symm) C.2.2.2.2.1 (hts _ hl) (hts _ hs) (hts _ hi) (hts _ hc) hf (by rw [cat_sum]; exact hr) (Nat.le_refl 0) (Nat.le_refl 0) hd (kk D κ ad p l e s m args below meth cd H locs la C hW hS hla)
/-- an array's content is replaced whole -/
def stA (M : Mem) (t : Nat) (f : Nat → Int32) : Mem := va_up M t f
theorem stA_ne {M : Mem} {t t' : Nat} {f : Nat → Int32} (h : t' ≠ t) : stA M t f t' = M t' := va_up_ne _ _ h
theorem stA_eq {M : Mem} {t : Nat} {f : Nat → Int32} : stA M t f t = f := va_up_self _ _ _
theorem Wd.putA {D : va_G} {κ : ClassId × ClassId × ClassId} {ad : Nat → Nat} {M : Mem} {t : Nat} {f : Nat → Int32} {H H1 : Heap} (hW : Wd D κ ad M H) (hinj : ∀ i j, i < 96 → j < 96 → ad i = ad j → i = j) (ht : t < 96) (hn : cellAt D κ ad (stA M t f) t H1) (ho : ∀ q, q ≠ ad t → H1[q]? = H[q]?) : Wd D κ ad (stA M t f) H1 := by
  refine ⟨fun t' h' => ?_, fun j hj => by rw [stA_ne (by omega)]; exact hW.2.1 j hj, fun j hj => by rw [stA_ne (by omega)]; exact hW.2.2 j hj⟩
  by_cases e : t' = t
  · subst e; exact hn
  · exact (hW.1 t' h').kept (ho _ (fun q => e (hinj _ _ h' ht q))) (stA_ne e)
theorem g_arraycopy {index t0 t1 : Nat} {sp dp n : Int32} (hl : Cond.methodLink q.y.cls index arraycopyName ∈ TB) (hnat : Cond.native arraycopyName ∈ TB) (hs : Cond.static arraycopyName ∈ TB) (hi : Cond.initialized "java/lang/System" ∈ TB) (hf : 1 ≤ q.rm.frames) (hr : (st.map fun v => v.category).sum + (nativeFrameWords "java/lang/System" "arraycopy" 5 + 11) ≤ q.rm.locals) (hd : decode q.cc pc = .ok (.invokestatic index, 3))
    (h0 : t0 < 96) (h1 : t1 < 96) (k0 : kd t0 = 8) (k1 : kd t1 = 8) (g1 : ¬ sp < 0) (g2 : ¬ dp < 0) (g3 : ¬ n < 0) (g4 : sp.toNatClampNeg + n.toNatClampNeg ≤ al t0) (g5 : dp.toNatClampNeg + n.toNatClampNeg ≤ al t1)
    (kk : G q (pc + 3) ls st (stA M t1 (va_cpy (M t0) (M t1) sp.toNatClampNeg dp.toNatClampNeg n.toNatClampNeg)) Post) : G q pc ls (.int n :: .int dp :: .ref t1 :: .int sp :: .ref t0 :: st) M Post := by
  intro D κ ad p l e s m args below meth cd H locs la C hW hS hla
  have hts : ∀ w ∈ TB, w.before args s = true := fun w h => C.2.2.2.2.2.1 w (List.mem_cons_of_mem _ h)
  have hK := C.2.2.2.2.2.2.2
  have hc0 := hW.1 t0 h0
  unfold cellAt at hc0
  rw [if_pos k0] at hc0
  have hc1 := hW.1 t1 h1
  unfold cellAt at hc1
  rw [if_pos k1] at hc1
  have nn : ∀ z : Int32, ¬ z < 0 → z.toInt = (z.toNatClampNeg : Int) := by
    intro z hz
    have hz0 : (0 : Int) ≤ z.toInt := by
      have := Int32.not_lt.mp hz
      simpa using Int32.le_iff_toInt_le.mp this
    show z.toInt = ((z.toInt.toNat : Nat) : Int)
    omega
  intro T hT X
  obtain ⟨-, ka, hka, cma, hkka⟩ := (hK.1.2 0 _ rfl).1 (al t0) (fun j => .int (M t0 j))
  obtain ⟨-, kb, hkb, cmb, hkkb⟩ := (hK.1.2 0 _ rfl).1 (al t1) (fun j => .int (M t1 j))
  obtain ⟨vm', X', step⟩ := X.arraycopy C.1 C.2.2.2.2.1 (hts _ hl) (hts _ hnat) (hts _ hs) (hts _ hi) (src := ad t0) (dst := ad t1) (cs := arrV κ.1 (al t0) (fun j => .int (M t0 j))) (cd := arrV κ.1 (al t1) (fun j => .int (M t1 j))) (srcPos := sp) (destPos := dp) (n := n) (by rw [hT]; exact hc0) (by rw [hT]; exact hc1)
    (fun _ h => by cases h) (fun _ h => by cases h) (fun h => by cases h) (fun h => by cases h) hka hkb hkka hkkb (by simp [refKind]) g1 g2 g3
    (by rw [nn sp g1, nn n g3, arrV_size]; omega)
    (by rw [nn dp g2, nn n g3, arrV_size]; omega)
    (fun vm₁ _ i hi => by
      have e : (arrV κ.1 (al t0) (fun j => Value.int (M t0 j))).slots.getD (sp.toNatClampNeg + i) .null = .int (M t0 (sp.toNatClampNeg + i)) := by
        rw [Array.getD_eq_getD_getElem?, arrV_read _ _ (by omega)]
        rfl
      refine ⟨?_, ?_⟩
      · rw [e]
        rfl
      · rw [e]
        exact trivial)
    (g := F0 m pc la (.int n :: .int dp :: .ref (ad t1) :: .int sp :: .ref (ad t0) :: st.map (cv ad))) rfl (by rw [C.2.2.2.1]; exact hla.1) (rest := st.map (cv ad)) rfl (by rw [C.2.1]; exact hd) hf (by show 2 * 0 + _ + _ ≤ _; rw [cat_sum]; omega)
  have e1 : copied (arrV κ.1 (al t0) (fun j => .int (M t0 j))) (arrV κ.1 (al t1) (fun j => .int (M t1 j))) sp dp n = arrV κ.1 (al t1) (fun j => .int (va_cpy (M t0) (M t1) sp.toNatClampNeg dp.toNatClampNeg n.toNatClampNeg j)) := va_copied (fun z => .int z) κ.1 κ.1 (M t0) (M t1) g4
  rw [e1] at X' step
  have hlt : ad t1 < H.size := (Array.getElem?_eq_some_iff.mp hc1).1
  have hheap : ((T.setVm vm').setCell (ad t1) (arrV κ.1 (al t1) (fun j => .int (va_cpy (M t0) (M t1) sp.toNatClampNeg dp.toNatClampNeg n.toNatClampNeg j)))).heap = H.setIfInBounds (ad t1) (arrV κ.1 (al t1) (fun j => .int (va_cpy (M t0) (M t1) sp.toNatClampNeg dp.toNatClampNeg n.toNatClampNeg j))) := by rw [← hT]; rfl
  have oq : ∀ z : Nat, z ≠ ad t1 → (H.setIfInBounds (ad t1) (arrV κ.1 (al t1) (fun j => .int (va_cpy (M t0) (M t1) sp.toNatClampNeg dp.toNatClampNeg n.toNatClampNeg j))))[z]? = H[z]? := fun z hz => by simp [Array.getElem?_setIfInBounds, Ne.symm hz]
  obtain ⟨t, a1, b1⟩ := kk D κ ad p l e s m args below meth cd _ _ la C (hW.putA hK.2.1 h1 (by
      unfold cellAt
      rw [if_pos k1, stA_eq]
      simp [Array.getElem?_setIfInBounds, hlt]) oq) ⟨by simp; exact hS.1, fun z z1 z2 => by
      rw [oq z (fun e => z2 ⟨t1, h1, e⟩)]
      exact hS.2.1 z z1 z2, fun z hz => by
      rcases List.mem_append.mp hz with h | h
      · exact hS.2.2 z h
      · obtain ⟨w, -, hw⟩ := List.mem_map.mp h
        rw [← hw]
        exact ⟨t1, h1, rfl⟩⟩ hla _ hheap X'
  exact ⟨t, step t a1, b1⟩
end GJ
