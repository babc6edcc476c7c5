/-! rows that read and write the memory -/
theorem kd_lt {t : Nat} (h : kd t ≠ 99) : t < 96 := by
  rcases Nat.lt_or_ge t 96 with h1 | h1
  · exact h1
  · refine absurd ?_ h
    unfold kd
    rw [List.getD_eq_getElem?_getD, List.getElem?_eq_none (by show kdL.length ≤ t; exact h1)]
    rfl
theorem al_tag {t : Nat} (h : al t ≠ 0) : (t < 96 ∧ kd t = 8) ∨ t = 97 := by
  rcases Nat.lt_or_ge t 98 with h1 | h1
  · have := (by decide +kernel : ∀ t, t < 98 → al t ≠ 0 → (t < 96 ∧ kd t = 8) ∨ t = 97)
    exact this t h1 h
  · refine absurd ?_ h
    unfold al
    rw [List.getD_eq_getElem?_getD, List.getElem?_eq_none (by show alL.length ≤ t; exact h1)]
    rfl
theorem rl_tag {t : Nat} (h : rl t ≠ 0) : t < 96 ∧ (kd t = 9 ∨ kd t = 10) := by
  rcases Nat.lt_or_ge t 96 with h1 | h1
  · have := (by decide +kernel : ∀ t, t < 96 → rl t ≠ 0 → t < 96 ∧ (kd t = 9 ∨ kd t = 10))
    exact this t h1 h
  · refine absurd ?_ h
    unfold rl
    rw [List.getD_eq_getElem?_getD, List.getElem?_eq_none (by show rlL.length ≤ t; exact h1)]
    rfl
theorem cls_at {c : Nat} (h : c < 8) : classes[c]? = some (Rn c, Tn c, nfn c) := by
  match c, h with
  | 0, _ => rfl
  | 1, _ => rfl
  | 2, _ => rfl
  | 3, _ => rfl
  | 4, _ => rfl
  | 5, _ => rfl
  | 6, _ => rfl
  | 7, _ => rfl
theorem lays_in {c : Nat} (h : c < 8) : ∀ w ∈ u_ws (Rn c) (Tn c) (nfn c), w ∈ TB := by
  have hb : ∀ c, c < 8 → (u_ws (Rn c) (Tn c) (nfn c)).all goodWord = true := by decide +kernel
  have hm : ∀ w ∈ u_ws (Rn c) (Tn c) (nfn c), w ∈ lw_tbl := by
    match c, h with
    | 0, _ => decide +kernel
    | 1, _ => decide +kernel
    | 2, _ => decide +kernel
    | 3, _ => decide +kernel
    | 4, _ => decide +kernel
    | 5, _ => decide +kernel
    | 6, _ => decide +kernel
    | 7, _ => decide +kernel
  exact fun w hw => TB_in (hm w hw) (List.all_eq_true.mp (hb c h) w hw)
theorem tyn_ok {c : Nat} (h : c < 8) : ∀ k, k < nfn c → parseFieldDescriptor (Tn c k).2.2.1 = some (tyn c k) := by
  match c, h with
  | 0, _ => exact tyX0_ok
  | 1, _ => exact tyX1_ok
  | 2, _ => exact tyX2_ok
  | 3, _ => exact tyX3_ok
  | 4, _ => exact tyX4_ok
  | 5, _ => exact tyX5_ok
  | 6, _ => exact tyX6_ok
  | 7, _ => exact tyX7_ok
theorem nmn_ok {c : Nat} (h : c < 8) : ∀ a, a < nfn c → ∀ b, b < nfn c → a ≠ b → (Tn c a).2.1 ≠ (Tn c b).2.1 := by
  match c, h with
  | 0, _ => exact nmX0
  | 1, _ => exact nmX1
  | 2, _ => exact nmX2
  | 3, _ => exact nmX3
  | 4, _ => exact nmX4
  | 5, _ => exact nmX5
  | 6, _ => exact nmX6
  | 7, _ => exact nmX7
/-- a store -/
def stm (M : Mem) (t k : Nat) (v : Int32) : Mem := va_up M t (upd (M t) k v)
theorem stm_ne {M : Mem} {t k t' : Nat} {v : Int32} (h : t' ≠ t) : stm M t k v t' = M t' := va_up_ne _ _ h
theorem stm_eq {M : Mem} {t k : Nat} {v : Int32} : stm M t k v t = upd (M t) k v := va_up_self _ _ _
theorem stm_self {M : Mem} {t k : Nat} {v : Int32} : stm M t k v t k = v := by rw [stm_eq]; exact pk_us
theorem stm_off {M : Mem} {t k k' : Nat} {v : Int32} (h : k' ≠ k) : stm M t k v t k' = M t k' := by rw [stm_eq]; exact pk_un h
theorem obj_at {D : va_G} {κ : ClassId × ClassId × ClassId} {ad : Nat → Nat} {M : Mem} {t c : Nat} {H : Heap} (hW : Wd D κ ad M H) (hk : kd t = c) (hc : c < 8) : t < 96 ∧ t_OB (ad t) (D.1 c) (nfn c) (D.2 c) H (fun k => cv ad (fvA M c t k)) := by
  have ht : t < 96 := kd_lt (by omega)
  have h := hW.1 t ht
  unfold cellAt at h
  rw [if_neg (by omega), if_neg (by omega), if_neg (by omega), hk] at h
  exact ⟨ht, h⟩
theorem cellAt.kept {D : va_G} {κ : ClassId × ClassId × ClassId} {ad : Nat → Nat} {M M' : Mem} {t : Nat} {H H1 : Heap} (h : cellAt D κ ad M t H) (hq : H1[ad t]? = H[ad t]?) (hM : M' t = M t) : cellAt D κ ad M' t H1 := by
  unfold cellAt at h ⊢
  split
  · next e => rw [if_pos e] at h; rw [hq, hM]; exact h
  · next e =>
    rw [if_neg e] at h
    split
    · next e2 => rw [if_pos e2] at h; rw [hq]; exact h
    · next e2 =>
      rw [if_neg e2] at h
      split
      · next e3 => rw [if_pos e3] at h; rw [hq]; exact h
      · next e3 =>
        rw [if_neg e3] at h
        have h2 := h.kept hq
        have e : (fun k => cv ad (fvA M' (kd t) t k)) = (fun k => cv ad (fvA M (kd t) t k)) := by
          funext k
          unfold fvA
          rw [hM]
        rw [e]
        exact h2
/-- one cell is written: the memory behind it -/
theorem Wd.put {D : va_G} {κ : ClassId × ClassId × ClassId} {ad : Nat → Nat} {M : Mem} {t k : Nat} {v : Int32} {H H1 : Heap} (hW : Wd D κ ad M H) (hinj : ∀ i j, i < 96 → j < 96 → ad i = ad j → i = j) (ht : t < 96) (hn : cellAt D κ ad (stm M t k v) t H1) (ho : ∀ q, q ≠ ad t → H1[q]? = H[q]?) : Wd D κ ad (stm M t k v) H1 := by
  refine ⟨fun t' h' => ?_, fun j hj => by rw [stm_ne (by omega)]; exact hW.2.1 j hj, fun j hj => by rw [stm_ne (by omega)]; exact hW.2.2 j hj⟩
  by_cases e : t' = t
  · subst e; exact hn
  · exact (hW.1 t' h').kept (ho _ (fun q => e (hinj _ _ h' ht q))) (stm_ne e)
section GF
variable {q : MI} {pc : Nat} {ls : List (Option Value)} {st : List Value} {M : Mem} {Post : Option Value → Mem → Prop}
theorem g_getfield {index c k t : Nat} (hd : decode q.cc pc = .ok (.getfield index, 3)) (hl : Cond.fieldLink q.y.cls index (Tn c k).1 (Tn c k).2.1 (Tn c k).2.2.1 ∈ TB) (hc : c < 8) (hkn : k < nfn c) (ht : kd t = c) (kk : G q (pc + 3) ls (fvA M c t k :: st) M Post) : G q pc ls (.ref t :: st) M Post := by
  intro D κ ad p l e s m args below meth cd H locs la C hW hS hla
  obtain ⟨h96, cell, q1, q2, q3, q4⟩ := obj_at hW ht hc
  obtain ⟨hSl, hfc, kC, hkC, hkind⟩ := C.2.2.2.2.2.2.2.1.1 c _ (cls_at hc)
  obtain ⟨cf, kf, fi, f, hi, hsl⟩ := hSl k hkn
  have hts : ∀ w ∈ TB, w.before args s = true := fun w h => C.2.2.2.2.2.1 w (List.mem_cons_of_mem _ h)
  refine W.getf C.1 C.2.1 C.2.2.2.2.1 (hts _ hl) hi (u_facts hfc hkC (u_lays hts (lays_in hc) hkn) hi).1 q1 (by rw [q3]; exact fun h => by cases h) (v := cv ad (fvA M c t k)) ?_ rfl rfl hd (kk D κ ad p l e s m args below meth cd H locs la C hW hS hla)
  rw [hsl, q4 k hkn]
/-- any plain field: its value in the picture is v then -/
theorem g_putfield {index c k t : Nat} {v : Value} {x : Int32} (hd : decode q.cc pc = .ok (.putfield index, 3)) (hl : Cond.fieldLink q.y.cls index (Tn c k).1 (Tn c k).2.1 (Tn c k).2.2.1 ∈ TB) (hc : c < 8) (hkn : k < nfn c) (hfin : (Tn c k).2.2.2 = false) (ht : kd t = c) (hx : fvA (stm M t k x) c t k = v) (hnar : ∀ ad, narrow (tyn c k) (cv ad v) = cv ad v) (hfit : ∀ ad, fits (tyn c k) (cv ad v) = true) (kk : G q (pc + 3) ls st (stm M t k x) Post) : G q pc ls (v :: .ref t :: st) M Post := by
  intro D κ ad p l e s m args below meth cd H locs la C hW hS hla
  obtain ⟨h96, cell, q1, q2, q3, q4⟩ := obj_at hW ht hc
  have hKx := C.2.2.2.2.2.2.2
  have hts : ∀ w ∈ TB, w.before args s = true := fun w h => C.2.2.2.2.2.1 w (List.mem_cons_of_mem _ h)
  have hap := va_apart (own := q.y.cls) hts (lays_in hc) (tyn c) (tyn_ok hc) (nmn_ok hc) hKx.1 (cls_at hc)
  obtain ⟨hSl, hfc, kC, hkC, hkind⟩ := hKx.1.1 c _ (cls_at hc)
  obtain ⟨cf, kf, fi, f, hi, hsl⟩ := hSl k hkn
  have hlay := hts _ (lays_in hc _ (u_in_lay hkn))
  unfold u_lay at hlay
  rw [if_neg (by rw [hfin]; decide)] at hlay
  have hst := (u_facts hfc hkC (u_lays hts (lays_in hc) hkn) hi).1
  have h6 := u_store hfc hkC hkind hlay hi (tyn_ok hc k hkn) (hnar ad) (hfit ad)
  refine W.putK C.1 C.2.1 (f := f) ⟨C.2.2.2.2.1, hts _ hl, ⟨_, _, _, hi⟩, hst⟩ (by rw [q2]; exact h6) q1 q3 (by rw [hsl]; exact k2_hasslot (q4 k hkn)) rfl rfl hd fun H' e1 e2 e3 => ?_
  rw [hsl] at e1 ⊢
  refine kk D κ ad p l e s m args below meth cd H' _ la C (hW.put hKx.2.1 h96 ?_ e3) (hS.put e2 e3 ⟨t, h96, rfl⟩) hla
  unfold cellAt
  rw [if_neg (by omega), if_neg (by omega), if_neg (by omega), ht]
  refine t_OB.to (V := updV (fun k => cv ad (fvA M c t k)) k (cv ad v)) ⟨_, e1, q2, q3, t_set q4 hap hkn (cv ad v)⟩ (fun j _ => ?_)
  by_cases e : j = k
  · subst e
    rw [hx]
    simp [updV]
  · simp only [updV, if_neg e]
    unfold fvA
    rw [stm_off e]
theorem g_iaload {t : Nat} {i : Int32} (hd : decode q.cc pc = .ok (.iaload, 1)) (hin : vp_in i (al t)) (kk : G q (pc + 1) ls (.int (M t i.toNatClampNeg) :: st) M Post) : G q pc ls (.int i :: .ref t :: st) M Post := by
  intro D κ ad p l e s m args below meth cd H locs la C hW hS hla
  have hlt : i.toNatClampNeg < al t := Nat.not_le.mp fun z => hin (Or.inr z)
  have hKx := C.2.2.2.2.2.2.2
  rcases al_tag (t := t) (by omega) with ⟨h96, h8⟩ | h97
  · have hcell := hW.1 t h96
    unfold cellAt at hcell
    rw [if_pos h8] at hcell
    exact W.iald (v := .int (M t i.toNatClampNeg)) C.1 C.2.1 hcell ((hKx.1.2 0 _ rfl).1 (al t) (fun j => .int (M t j))) (fun z => by cases z) (by show ¬ (i < 0 ∨ (arrV _ _ _).slots.size ≤ _); rw [arrV_size]; exact hin) (by rw [arrV_read _ _ hlt]) rfl rfl hd (kk D κ ad p l e s m args below meth cd H locs la C hW hS hla)
  · subst h97
    exact va_ti C.1 C.2.1 hKx.2.2.2.2.2.1 hS hin (by rw [hW.2.2 _ hlt]; rfl) hd (kk D κ ad p l e s m args below meth cd H locs la C hW hS hla)
theorem g_iastore {t : Nat} {i x : Int32} (hd : decode q.cc pc = .ok (.iastore, 1)) (hin : vp_in i (al t)) (h96 : t < 96) (kk : G q (pc + 1) ls st (stm M t i.toNatClampNeg x) Post) : G q pc ls (.int x :: .int i :: .ref t :: st) M Post := by
  intro D κ ad p l e s m args below meth cd H locs la C hW hS hla
  have hlt : i.toNatClampNeg < al t := Nat.not_le.mp fun z => hin (Or.inr z)
  have hKx := C.2.2.2.2.2.2.2
  have h8 : kd t = 8 := by
    rcases al_tag (t := t) (by omega) with h | h
    · exact h.2
    · omega
  have hcell := hW.1 t h96
  unfold cellAt at hcell
  rw [if_pos h8] at hcell
  refine W.iast C.1 C.2.1 hcell ((hKx.1.2 0 _ rfl).1 (al t) (fun j => .int (M t j))) (fun z => by cases z) (by show ¬ (i < 0 ∨ (arrV _ _ _).slots.size ≤ _); rw [arrV_size]; exact hin) rfl rfl hd fun H1 e1 e2 e3 => ?_
  refine kk D κ ad p l e s m args below meth cd H1 _ la C (hW.put hKx.2.1 h96 ?_ e3) (hS.put e2 e3 ⟨t, h96, rfl⟩) hla
  unfold cellAt
  rw [if_pos h8, e1, arrV_store]
  congr 2
  funext j
  rw [stm_eq]
  by_cases hj : j = i.toNatClampNeg
  · subst hj; simp [updV, upd]
  · simp [updV, upd, hj]
theorem g_aaload {t : Nat} {i : Int32} (hd : decode q.cc pc = .ok (.aaload, 1)) (hin : vp_in i (rl t)) (kk : G q (pc + 1) ls (.ref (rb t + i.toNatClampNeg) :: st) M Post) : G q pc ls (.int i :: .ref t :: st) M Post := by
  intro D κ ad p l e s m args below meth cd H locs la C hW hS hla
  have hlt : i.toNatClampNeg < rl t := Nat.not_le.mp fun z => hin (Or.inr z)
  have hKx := C.2.2.2.2.2.2.2
  obtain ⟨h96, h9⟩ := rl_tag (t := t) (by omega)
  have hcell := hW.1 t h96
  unfold cellAt at hcell
  rcases h9 with h9 | h9
  · rw [if_neg (by omega), if_pos h9] at hcell
    exact W.aald (v := .ref (ad (rb t + i.toNatClampNeg))) (ty := .object RX2) C.1 C.2.1 hcell ((hKx.1.2 1 _ rfl).1 (rl t) _) rfl (fun z => by cases z) (by show ¬ (i < 0 ∨ (arrV _ _ _).slots.size ≤ _); rw [arrV_size]; exact hin) (by rw [arrV_read _ _ hlt]) rfl rfl hd (kk D κ ad p l e s m args below meth cd H locs la C hW hS hla)
  · rw [if_neg (by omega), if_neg (by omega), if_pos h9] at hcell
    exact W.aald (v := .ref (ad (rb t + i.toNatClampNeg))) (ty := .array .int) C.1 C.2.1 hcell ((hKx.1.2 2 _ rfl).1 (rl t) _) rfl (fun z => by cases z) (by show ¬ (i < 0 ∨ (arrV _ _ _).slots.size ≤ _); rw [arrV_size]; exact hin) (by rw [arrV_read _ _ hlt]) rfl rfl hd (kk D κ ad p l e s m args below meth cd H locs la C hW hS hla)
theorem g_letters {index : Nat} (hd : decode q.cc pc = .ok (.getstatic index, 3)) (hl : Cond.fieldLink q.y.cls index RX6 "LETTERS" "[C" ∈ TB) (kk : G q (pc + 3) ls (.ref 96 :: st) M Post) : G q pc ls st M Post := by
  intro D κ ad p l e s m args below meth cd H locs la C hW hS hla
  exact va_gets C.1 C.2.1 C.2.2.2.2.2.2.2.2.2.1 hS C.2.2.2.2.1 (C.2.2.2.2.2.1 _ (List.mem_cons_of_mem _ hl)) (fun _ h => h) hd (kk D κ ad p l e s m args below meth cd H locs la C hW hS hla)
theorem g_equal {index : Nat} (hd : decode q.cc pc = .ok (.getstatic index, 3)) (hl : Cond.fieldLink q.y.cls index RX6 "EQUAL_WEIGHTS" "[I" ∈ TB) (kk : G q (pc + 3) ls (.ref 97 :: st) M Post) : G q pc ls st M Post := by
  intro D κ ad p l e s m args below meth cd H locs la C hW hS hla
  exact va_gets C.1 C.2.1 C.2.2.2.2.2.2.2.2.2.2.1 hS C.2.2.2.2.1 (C.2.2.2.2.2.1 _ (List.mem_cons_of_mem _ hl)) (fun _ h => h) hd (kk D κ ad p l e s m args below meth cd H locs la C hW hS hla)
theorem g_caload {i : Int32} (hd : decode q.cc pc = .ok (.caload, 1)) (hin : vp_in i 4) (kk : G q (pc + 1) ls (.int (ltr i.toNatClampNeg) :: st) M Post) : G q pc ls (.int i :: .ref 96 :: st) M Post := by
  intro D κ ad p l e s m args below meth cd H locs la C hW hS hla
  exact va_tc C.1 C.2.1 C.2.2.2.2.2.2.2.2.2.2.2.1 hS hin rfl hd (kk D κ ad p l e s m args below meth cd H locs la C hW hS hla)
end GF
