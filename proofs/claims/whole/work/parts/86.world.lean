/-! the world of tags out of the constructors -/
def ordL : List Nat := [0, 1, 14, 15, 16, 17, 18, 19, 20, 21, 22, 23, 24, 25, 26, 27, 28, 29, 30, 31, 32, 33, 34, 35, 36, 37, 38, 39, 40, 41, 42, 43, 44, 45, 46, 47, 48, 59, 60, 95, 94, 2, 4, 6, 8, 10, 3, 5, 7, 9, 11, 49, 51, 53, 55, 57, 50, 52, 54, 56, 58, 61, 63, 65, 67, 69, 62, 64, 66, 68, 70, 12, 71, 72, 73, 74, 13, 75, 76, 77, 78, 79, 80, 81, 82, 83, 84, 85, 86, 87, 88, 89, 90, 91, 92, 93]
def adF (s0 aL aE : Nat) (t : Nat) : Nat := (ordL.map (fun k => s0 + k) ++ [aL, aE]).getD t 0
theorem adF_lt {s0 aL aE t : Nat} (h : t < 96) : adF s0 aL aE t = s0 + ordL.getD t 0 := by
  unfold adF
  rw [List.getD_eq_getElem?_getD, List.getElem?_append_left (by rw [List.length_map]; exact h), List.getElem?_map, List.getD_eq_getElem?_getD]
  have hl : t < ordL.length := h
  rw [List.getElem?_eq_getElem hl]
  rfl
theorem ord_inj : ∀ i, i < 96 → ∀ j, j < 96 → ordL.getD i 0 = ordL.getD j 0 → i = j := by decide +kernel
theorem adF_inj {s0 aL aE i j : Nat} (hi : i < 96) (hj : j < 96) (h : adF s0 aL aE i = adF s0 aL aE j) : i = j := by
  rw [adF_lt hi, adF_lt hj] at h
  exact ord_inj i hi j hj (by omega)
theorem adF_ge {s0 aL aE t : Nat} (h : t < 96) : s0 ≤ adF s0 aL aE t := by
  rw [adF_lt h]
  omega
/-- the memory after the constructors -/
def M0 : Mem := fun t => match t with
  | 0 => fun k => match k with
    | 5 => nI 35
    | 6 => nI 37
    | _ => 0
  | 2 => fun k => match k with
    | 1 => nI 10
    | 2 => nI 1
    | _ => 0
  | 3 => upd (upd (upd (upd (upd (upd (upd (upd (upd (upd (upd (upd (upd (upd (upd (upd (fun _ => 0) 0 (nI 5)) 1 ((-4))) 2 ((-4))) 3 ((-4))) 4 ((-4))) 5 (nI 5)) 6 ((-4))) 7 ((-4))) 8 ((-4))) 9 ((-4))) 10 (nI 5)) 11 ((-4))) 12 ((-4))) 13 ((-4))) 14 ((-4))) 15 (nI 5)
  | 72 => fun k => match k with
    | 6 => nI 10
    | 7 => nI 1
    | _ => 0
  | 77 => upd (upd (upd (upd (upd (upd (upd (upd (upd (upd (upd (upd (upd (upd (upd (upd (fun _ => 0) 0 (nI 5)) 1 ((-4))) 2 ((-4))) 3 ((-4))) 4 ((-4))) 5 (nI 5)) 6 ((-4))) 7 ((-4))) 8 ((-4))) 9 ((-4))) 10 (nI 5)) 11 ((-4))) 12 ((-4))) 13 ((-4))) 14 ((-4))) 15 (nI 5)
  | 96 => ltr
  | 97 => fun _ => 1
  | _ => fun _ => 0
theorem arr_cg {c : ClassId} {N : Nat} {f g : Nat → Value} (h : ∀ j, j < N → f j = g j) : arrV c N f = arrV c N g := by
  unfold arrV
  rw [show (fun j : Fin N => f j.val) = (fun j : Fin N => g j.val) from funext (fun j => h j.val j.isLt)]
def allW (κ : ClassId × ClassId × ClassId) (sz : Nat) : va_W := [(sz, .inr (6, [.ref (sz + 1), .ref (sz + 12), .ref (sz + 14), .ref (sz + 16), .ref (sz + 28), .ref (sz + 47), .ref (sz + 59), .int 0, .int 0, .int 0, .int 0, .int 0])), (sz + 1, .inl (κ.2.1, 5, .inr (.inr (.inr (.inr (va_up (va_up (va_up (va_up (va_up (fun _ => none) 0 (some (sz + 2))) 1 (some (sz + 4))) 2 (some (sz + 6))) 3 (some (sz + 8))) 4 (some (sz + 10)))))))), (sz + 2, .inr (2, [.ref (sz + 3), .int 0])), (sz + 3, .inl (κ.1, 12, .inl (fun _ => 0))), (sz + 4, .inr (2, [.ref (sz + 5), .int 0])), (sz + 5, .inl (κ.1, 12, .inl (fun _ => 0))), (sz + 6, .inr (2, [.ref (sz + 7), .int 0])), (sz + 7, .inl (κ.1, 12, .inl (fun _ => 0))), (sz + 8, .inr (2, [.ref (sz + 9), .int 0])), (sz + 9, .inl (κ.1, 12, .inl (fun _ => 0))), (sz + 10, .inr (2, [.ref (sz + 11), .int 0])), (sz + 11, .inl (κ.1, 12, .inl (fun _ => 0))), (sz + 12, .inr (2, [.ref (sz + 13), .int 0])), (sz + 13, .inl (κ.1, 12, .inl (fun _ => 0))), (sz + 14, .inr (0, [.ref (sz + 15), .int (nI 10), .int (nI 1)])), (sz + 15, .inl (κ.1, 16, .inl (upd (upd (upd (upd (upd (upd (upd (upd (upd (upd (upd (upd (upd (upd (upd (upd (fun _ => 0) 0 (nI 5)) 1 ((-4))) 2 ((-4))) 3 ((-4))) 4 ((-4))) 5 (nI 5)) 6 ((-4))) 7 ((-4))) 8 ((-4))) 9 ((-4))) 10 (nI 5)) 11 ((-4))) 12 ((-4))) 13 ((-4))) 14 ((-4))) 15 (nI 5)))), (sz + 16, .inr (1, [.ref (sz + 14), .ref (sz + 17), .ref (sz + 20), .ref (sz + 23), .ref (sz + 27), .int 0, .int 0, .int 0, .int 0, .int 0])), (sz + 17, .inr (4, [.ref (sz + 18), .ref (sz + 19), .int 0, .int 0])), (sz + 18, .inl (κ.1, 192, .inl (fun _ => 0))), (sz + 19, .inl (κ.1, 48, .inl (fun _ => 0))), (sz + 20, .inr (4, [.ref (sz + 21), .ref (sz + 22), .int 0, .int 0])), (sz + 21, .inl (κ.1, 192, .inl (fun _ => 0))), (sz + 22, .inl (κ.1, 48, .inl (fun _ => 0))), (sz + 23, .inl (κ.2.2, 3, .inr (.inr (.inr (.inr (fun i => if i < 3 then some (sz + 24 + i) else none)))))), (sz + 24, .inl (κ.1, 925, .inl (fun _ => 0))), (sz + 25, .inl (κ.1, 925, .inl (fun _ => 0))), (sz + 26, .inl (κ.1, 925, .inl (fun _ => 0))), (sz + 27, .inl (κ.1, 60, .inl (fun _ => 0))), (sz + 28, .inr (5, [.ref (sz + 29), .ref (sz + 30), .ref (sz + 31), .ref (sz + 32), .ref (sz + 33), .ref (sz + 34), .ref (sz + 35), .ref (sz + 36), .ref (sz + 37), .int 0, .int 0, .int 0])), (sz + 29, .inl (κ.1, 9, .inl (fun _ => 0))), (sz + 30, .inl (κ.1, 9, .inl (fun _ => 0))), (sz + 31, .inl (κ.1, 9, .inl (fun _ => 0))), (sz + 32, .inl (κ.1, 9, .inl (fun _ => 0))), (sz + 33, .inl (κ.1, 9, .inl (fun _ => 0))), (sz + 34, .inl (κ.1, 9, .inl (fun _ => 0))), (sz + 35, .inl (κ.1, 9, .inl (fun _ => 0))), (sz + 36, .inl (κ.1, 5, .inl (fun _ => 0))), (sz + 37, .inl (κ.2.2, 9, .inr (.inr (.inr (.inr (fun i => if i < 9 then some (sz + 38 + i) else none)))))), (sz + 38, .inl (κ.1, 9, .inl (fun _ => 0))), (sz + 39, .inl (κ.1, 9, .inl (fun _ => 0))), (sz + 40, .inl (κ.1, 9, .inl (fun _ => 0))), (sz + 41, .inl (κ.1, 9, .inl (fun _ => 0))), (sz + 42, .inl (κ.1, 9, .inl (fun _ => 0))), (sz + 43, .inl (κ.1, 9, .inl (fun _ => 0))), (sz + 44, .inl (κ.1, 9, .inl (fun _ => 0))), (sz + 45, .inl (κ.1, 9, .inl (fun _ => 0))), (sz + 46, .inl (κ.1, 9, .inl (fun _ => 0))), (sz + 47, .inr (3, [.ref (sz + 48)])), (sz + 48, .inl (κ.2.1, 5, .inr (.inr (.inr (.inr (va_up (va_up (va_up (va_up (va_up (fun _ => none) 0 (some (sz + 49))) 1 (some (sz + 51))) 2 (some (sz + 53))) 3 (some (sz + 55))) 4 (some (sz + 57)))))))), (sz + 49, .inr (2, [.ref (sz + 50), .int 0])), (sz + 50, .inl (κ.1, 60, .inl (fun _ => 0))), (sz + 51, .inr (2, [.ref (sz + 52), .int 0])), (sz + 52, .inl (κ.1, 60, .inl (fun _ => 0))), (sz + 53, .inr (2, [.ref (sz + 54), .int 0])), (sz + 54, .inl (κ.1, 60, .inl (fun _ => 0))), (sz + 55, .inr (2, [.ref (sz + 56), .int 0])), (sz + 56, .inl (κ.1, 60, .inl (fun _ => 0))), (sz + 57, .inr (2, [.ref (sz + 58), .int 0])), (sz + 58, .inl (κ.1, 60, .inl (fun _ => 0))), (sz + 59, .inr (3, [.ref (sz + 60)])), (sz + 60, .inl (κ.2.1, 5, .inr (.inr (.inr (.inr (va_up (va_up (va_up (va_up (va_up (fun _ => none) 0 (some (sz + 61))) 1 (some (sz + 63))) 2 (some (sz + 65))) 3 (some (sz + 67))) 4 (some (sz + 69)))))))), (sz + 61, .inr (2, [.ref (sz + 62), .int 0])), (sz + 62, .inl (κ.1, 60, .inl (fun _ => 0))), (sz + 63, .inr (2, [.ref (sz + 64), .int 0])), (sz + 64, .inl (κ.1, 60, .inl (fun _ => 0))), (sz + 65, .inr (2, [.ref (sz + 66), .int 0])), (sz + 66, .inl (κ.1, 60, .inl (fun _ => 0))), (sz + 67, .inr (2, [.ref (sz + 68), .int 0])), (sz + 68, .inl (κ.1, 60, .inl (fun _ => 0))), (sz + 69, .inr (2, [.ref (sz + 70), .int 0])), (sz + 70, .inl (κ.1, 60, .inl (fun _ => 0))), (sz + 71, .inr (7, [.int 0, .ref (sz + 72), .ref (sz + 73), .int 0, .ref (sz + 74), .ref (sz + 75), .int (nI 10), .int (nI 1), .int 0, .int 0, .int 0, .int 0, .ref (sz + 76), .ref (sz + 77), .ref (sz + 78), .ref (sz + 79), .ref (sz + 80), .ref (sz + 81), .ref (sz + 82), .ref (sz + 83), .ref (sz + 84), .ref (sz + 85), .ref (sz + 86), .int 0, .ref (sz + 87), .int 0, .int 0, .int 0, .int 0, .ref (sz + 88), .ref (sz + 89), .int 0, .ref (sz + 90), .ref (sz + 91), .ref (sz + 92), .ref (sz + 93), .ref (sz + 94), .ref (sz + 95), .long 0, .long 0])), (sz + 72, .inl (κ.1, 5, .inl (fun _ => 0))), (sz + 73, .inl (κ.1, 60, .inl (fun _ => 0))), (sz + 74, .inl (κ.1, 12, .inl (fun _ => 0))), (sz + 75, .inl (κ.1, 16, .inl (upd (upd (upd (upd (upd (upd (upd (upd (upd (upd (upd (upd (upd (upd (upd (upd (fun _ => 0) 0 (nI 5)) 1 ((-4))) 2 ((-4))) 3 ((-4))) 4 ((-4))) 5 (nI 5)) 6 ((-4))) 7 ((-4))) 8 ((-4))) 9 ((-4))) 10 (nI 5)) 11 ((-4))) 12 ((-4))) 13 ((-4))) 14 ((-4))) 15 (nI 5)))), (sz + 76, .inl (κ.1, 9, .inl (fun _ => 0))), (sz + 77, .inl (κ.1, 9, .inl (fun _ => 0))), (sz + 78, .inl (κ.1, 9, .inl (fun _ => 0))), (sz + 79, .inl (κ.1, 9, .inl (fun _ => 0))), (sz + 80, .inl (κ.1, 9, .inl (fun _ => 0))), (sz + 81, .inl (κ.1, 9, .inl (fun _ => 0))), (sz + 82, .inl (κ.1, 2700, .inl (fun _ => 0))), (sz + 83, .inl (κ.1, 9, .inl (fun _ => 0))), (sz + 84, .inl (κ.1, 81, .inl (fun _ => 0))), (sz + 85, .inl (κ.1, 25, .inl (fun _ => 0))), (sz + 86, .inl (κ.1, 5, .inl (fun _ => 0))), (sz + 87, .inl (κ.1, 300, .inl (fun _ => 0))), (sz + 88, .inl (κ.1, 300, .inl (fun _ => 0))), (sz + 89, .inl (κ.1, 300, .inl (fun _ => 0))), (sz + 90, .inl (κ.1, 300, .inl (fun _ => 0))), (sz + 91, .inl (κ.1, 3600, .inl (fun _ => 0))), (sz + 92, .inl (κ.1, 60, .inl (fun _ => 0))), (sz + 93, .inl (κ.1, 60, .inl (fun _ => 0))), (sz + 94, .inl (κ.1, 11163, .inl (fun _ => 0))), (sz + 95, .inl (κ.1, 5, .inl (fun _ => 0)))]
theorem w_0 {D : va_G} {κ : ClassId × ClassId × ClassId} {H : Heap} {sz aL aE : Nat} (h : va_P D classes (allW κ sz) H) : cellAt D κ (adF sz aL aE) M0 0 H := by
  unfold cellAt
  rw [if_neg (by decide), if_neg (by decide), if_neg (by decide)]
  obtain ⟨r, hr, hb⟩ := h 0 _ rfl
  cases hr
  refine hb.to (fun j hj => ?_)
  have hj : j < 12 := hj
  match j, hj with
  | 0, _ => rfl
  | 1, _ => rfl
  | 2, _ => rfl
  | 3, _ => rfl
  | 4, _ => rfl
  | 5, _ => rfl
  | 6, _ => rfl
  | 7, _ => rfl
  | 8, _ => rfl
  | 9, _ => rfl
  | 10, _ => rfl
  | 11, _ => rfl
  | j + 12, hj => exact absurd hj (by omega)
theorem w_1 {D : va_G} {κ : ClassId × ClassId × ClassId} {H : Heap} {sz aL aE : Nat} (h : va_P D classes (allW κ sz) H) : cellAt D κ (adF sz aL aE) M0 1 H := by
  unfold cellAt
  rw [if_neg (by decide), if_pos (by decide)]
  have e2 : H[sz + 1]? = some (arrV κ.2.1 5 (fun j => va_rf ((va_up (va_up (va_up (va_up (va_up (fun _ => none) 0 (some (sz + 2))) 1 (some (sz + 4))) 2 (some (sz + 6))) 3 (some (sz + 8))) 4 (some (sz + 10))) j))) := h 1 _ rfl
  refine e2.trans (congrArg some (arr_cg (g := fun j => Value.ref (adF sz aL aE (rb 1 + j))) (fun j hj => ?_)))
  have hj : j < 5 := hj
  match j, hj with
  | 0, _ => rfl
  | 1, _ => rfl
  | 2, _ => rfl
  | 3, _ => rfl
  | 4, _ => rfl
  | j + 5, hj => exact absurd hj (by omega)
theorem w_2 {D : va_G} {κ : ClassId × ClassId × ClassId} {H : Heap} {sz aL aE : Nat} (h : va_P D classes (allW κ sz) H) : cellAt D κ (adF sz aL aE) M0 2 H := by
  unfold cellAt
  rw [if_neg (by decide), if_neg (by decide), if_neg (by decide)]
  obtain ⟨r, hr, hb⟩ := h 14 _ rfl
  cases hr
  refine hb.to (fun j hj => ?_)
  have hj : j < 3 := hj
  match j, hj with
  | 0, _ => rfl
  | 1, _ => rfl
  | 2, _ => rfl
  | j + 3, hj => exact absurd hj (by omega)
theorem w_3 {D : va_G} {κ : ClassId × ClassId × ClassId} {H : Heap} {sz aL aE : Nat} (h : va_P D classes (allW κ sz) H) : cellAt D κ (adF sz aL aE) M0 3 H := by
  unfold cellAt
  rw [if_pos (by decide)]
  exact h 15 _ rfl
theorem w_4 {D : va_G} {κ : ClassId × ClassId × ClassId} {H : Heap} {sz aL aE : Nat} (h : va_P D classes (allW κ sz) H) : cellAt D κ (adF sz aL aE) M0 4 H := by
  unfold cellAt
  rw [if_neg (by decide), if_neg (by decide), if_neg (by decide)]
  obtain ⟨r, hr, hb⟩ := h 16 _ rfl
  cases hr
  refine hb.to (fun j hj => ?_)
  have hj : j < 10 := hj
  match j, hj with
  | 0, _ => rfl
  | 1, _ => rfl
  | 2, _ => rfl
  | 3, _ => rfl
  | 4, _ => rfl
  | 5, _ => rfl
  | 6, _ => rfl
  | 7, _ => rfl
  | 8, _ => rfl
  | 9, _ => rfl
  | j + 10, hj => exact absurd hj (by omega)
theorem w_5 {D : va_G} {κ : ClassId × ClassId × ClassId} {H : Heap} {sz aL aE : Nat} (h : va_P D classes (allW κ sz) H) : cellAt D κ (adF sz aL aE) M0 5 H := by
  unfold cellAt
  rw [if_neg (by decide), if_neg (by decide), if_neg (by decide)]
  obtain ⟨r, hr, hb⟩ := h 17 _ rfl
  cases hr
  refine hb.to (fun j hj => ?_)
  have hj : j < 4 := hj
  match j, hj with
  | 0, _ => rfl
  | 1, _ => rfl
  | 2, _ => rfl
  | 3, _ => rfl
  | j + 4, hj => exact absurd hj (by omega)
theorem w_6 {D : va_G} {κ : ClassId × ClassId × ClassId} {H : Heap} {sz aL aE : Nat} (h : va_P D classes (allW κ sz) H) : cellAt D κ (adF sz aL aE) M0 6 H := by
  unfold cellAt
  rw [if_pos (by decide)]
  exact h 18 _ rfl
theorem w_7 {D : va_G} {κ : ClassId × ClassId × ClassId} {H : Heap} {sz aL aE : Nat} (h : va_P D classes (allW κ sz) H) : cellAt D κ (adF sz aL aE) M0 7 H := by
  unfold cellAt
  rw [if_pos (by decide)]
  exact h 19 _ rfl
theorem w_8 {D : va_G} {κ : ClassId × ClassId × ClassId} {H : Heap} {sz aL aE : Nat} (h : va_P D classes (allW κ sz) H) : cellAt D κ (adF sz aL aE) M0 8 H := by
  unfold cellAt
  rw [if_neg (by decide), if_neg (by decide), if_neg (by decide)]
  obtain ⟨r, hr, hb⟩ := h 20 _ rfl
  cases hr
  refine hb.to (fun j hj => ?_)
  have hj : j < 4 := hj
  match j, hj with
  | 0, _ => rfl
  | 1, _ => rfl
  | 2, _ => rfl
  | 3, _ => rfl
  | j + 4, hj => exact absurd hj (by omega)
theorem w_9 {D : va_G} {κ : ClassId × ClassId × ClassId} {H : Heap} {sz aL aE : Nat} (h : va_P D classes (allW κ sz) H) : cellAt D κ (adF sz aL aE) M0 9 H := by
  unfold cellAt
  rw [if_pos (by decide)]
  exact h 21 _ rfl
theorem w_10 {D : va_G} {κ : ClassId × ClassId × ClassId} {H : Heap} {sz aL aE : Nat} (h : va_P D classes (allW κ sz) H) : cellAt D κ (adF sz aL aE) M0 10 H := by
  unfold cellAt
  rw [if_pos (by decide)]
  exact h 22 _ rfl
theorem w_11 {D : va_G} {κ : ClassId × ClassId × ClassId} {H : Heap} {sz aL aE : Nat} (h : va_P D classes (allW κ sz) H) : cellAt D κ (adF sz aL aE) M0 11 H := by
  unfold cellAt
  rw [if_neg (by decide), if_neg (by decide), if_pos (by decide)]
  have e2 : H[sz + 23]? = some (arrV κ.2.2 3 (fun j => va_rf ((fun i => if i < 3 then some (sz + 24 + i) else none) j))) := h 23 _ rfl
  refine e2.trans (congrArg some (arr_cg (g := fun j => Value.ref (adF sz aL aE (rb 11 + j))) (fun j hj => ?_)))
  have hj : j < 3 := hj
  match j, hj with
  | 0, _ => rfl
  | 1, _ => rfl
  | 2, _ => rfl
  | j + 3, hj => exact absurd hj (by omega)
theorem w_12 {D : va_G} {κ : ClassId × ClassId × ClassId} {H : Heap} {sz aL aE : Nat} (h : va_P D classes (allW κ sz) H) : cellAt D κ (adF sz aL aE) M0 12 H := by
  unfold cellAt
  rw [if_pos (by decide)]
  exact h 24 _ rfl
theorem w_13 {D : va_G} {κ : ClassId × ClassId × ClassId} {H : Heap} {sz aL aE : Nat} (h : va_P D classes (allW κ sz) H) : cellAt D κ (adF sz aL aE) M0 13 H := by
  unfold cellAt
  rw [if_pos (by decide)]
  exact h 25 _ rfl
theorem w_14 {D : va_G} {κ : ClassId × ClassId × ClassId} {H : Heap} {sz aL aE : Nat} (h : va_P D classes (allW κ sz) H) : cellAt D κ (adF sz aL aE) M0 14 H := by
  unfold cellAt
  rw [if_pos (by decide)]
  exact h 26 _ rfl
theorem w_15 {D : va_G} {κ : ClassId × ClassId × ClassId} {H : Heap} {sz aL aE : Nat} (h : va_P D classes (allW κ sz) H) : cellAt D κ (adF sz aL aE) M0 15 H := by
  unfold cellAt
  rw [if_pos (by decide)]
  exact h 27 _ rfl
theorem w_16 {D : va_G} {κ : ClassId × ClassId × ClassId} {H : Heap} {sz aL aE : Nat} (h : va_P D classes (allW κ sz) H) : cellAt D κ (adF sz aL aE) M0 16 H := by
  unfold cellAt
  rw [if_neg (by decide), if_neg (by decide), if_neg (by decide)]
  obtain ⟨r, hr, hb⟩ := h 28 _ rfl
  cases hr
  refine hb.to (fun j hj => ?_)
  have hj : j < 12 := hj
  match j, hj with
  | 0, _ => rfl
  | 1, _ => rfl
  | 2, _ => rfl
  | 3, _ => rfl
  | 4, _ => rfl
  | 5, _ => rfl
  | 6, _ => rfl
  | 7, _ => rfl
  | 8, _ => rfl
  | 9, _ => rfl
  | 10, _ => rfl
  | 11, _ => rfl
  | j + 12, hj => exact absurd hj (by omega)
theorem w_17 {D : va_G} {κ : ClassId × ClassId × ClassId} {H : Heap} {sz aL aE : Nat} (h : va_P D classes (allW κ sz) H) : cellAt D κ (adF sz aL aE) M0 17 H := by
  unfold cellAt
  rw [if_pos (by decide)]
  exact h 29 _ rfl
theorem w_18 {D : va_G} {κ : ClassId × ClassId × ClassId} {H : Heap} {sz aL aE : Nat} (h : va_P D classes (allW κ sz) H) : cellAt D κ (adF sz aL aE) M0 18 H := by
  unfold cellAt
  rw [if_pos (by decide)]
  exact h 30 _ rfl
theorem w_19 {D : va_G} {κ : ClassId × ClassId × ClassId} {H : Heap} {sz aL aE : Nat} (h : va_P D classes (allW κ sz) H) : cellAt D κ (adF sz aL aE) M0 19 H := by
  unfold cellAt
  rw [if_pos (by decide)]
  exact h 31 _ rfl
theorem w_20 {D : va_G} {κ : ClassId × ClassId × ClassId} {H : Heap} {sz aL aE : Nat} (h : va_P D classes (allW κ sz) H) : cellAt D κ (adF sz aL aE) M0 20 H := by
  unfold cellAt
  rw [if_pos (by decide)]
  exact h 32 _ rfl
theorem w_21 {D : va_G} {κ : ClassId × ClassId × ClassId} {H : Heap} {sz aL aE : Nat} (h : va_P D classes (allW κ sz) H) : cellAt D κ (adF sz aL aE) M0 21 H := by
  unfold cellAt
  rw [if_pos (by decide)]
  exact h 33 _ rfl
theorem w_22 {D : va_G} {κ : ClassId × ClassId × ClassId} {H : Heap} {sz aL aE : Nat} (h : va_P D classes (allW κ sz) H) : cellAt D κ (adF sz aL aE) M0 22 H := by
  unfold cellAt
  rw [if_pos (by decide)]
  exact h 34 _ rfl
theorem w_23 {D : va_G} {κ : ClassId × ClassId × ClassId} {H : Heap} {sz aL aE : Nat} (h : va_P D classes (allW κ sz) H) : cellAt D κ (adF sz aL aE) M0 23 H := by
  unfold cellAt
  rw [if_pos (by decide)]
  exact h 35 _ rfl
theorem w_24 {D : va_G} {κ : ClassId × ClassId × ClassId} {H : Heap} {sz aL aE : Nat} (h : va_P D classes (allW κ sz) H) : cellAt D κ (adF sz aL aE) M0 24 H := by
  unfold cellAt
  rw [if_pos (by decide)]
  exact h 36 _ rfl
theorem w_25 {D : va_G} {κ : ClassId × ClassId × ClassId} {H : Heap} {sz aL aE : Nat} (h : va_P D classes (allW κ sz) H) : cellAt D κ (adF sz aL aE) M0 25 H := by
  unfold cellAt
  rw [if_neg (by decide), if_neg (by decide), if_pos (by decide)]
  have e2 : H[sz + 37]? = some (arrV κ.2.2 9 (fun j => va_rf ((fun i => if i < 9 then some (sz + 38 + i) else none) j))) := h 37 _ rfl
  refine e2.trans (congrArg some (arr_cg (g := fun j => Value.ref (adF sz aL aE (rb 25 + j))) (fun j hj => ?_)))
  have hj : j < 9 := hj
  match j, hj with
  | 0, _ => rfl
  | 1, _ => rfl
  | 2, _ => rfl
  | 3, _ => rfl
  | 4, _ => rfl
  | 5, _ => rfl
  | 6, _ => rfl
  | 7, _ => rfl
  | 8, _ => rfl
  | j + 9, hj => exact absurd hj (by omega)
theorem w_26 {D : va_G} {κ : ClassId × ClassId × ClassId} {H : Heap} {sz aL aE : Nat} (h : va_P D classes (allW κ sz) H) : cellAt D κ (adF sz aL aE) M0 26 H := by
  unfold cellAt
  rw [if_pos (by decide)]
  exact h 38 _ rfl
theorem w_27 {D : va_G} {κ : ClassId × ClassId × ClassId} {H : Heap} {sz aL aE : Nat} (h : va_P D classes (allW κ sz) H) : cellAt D κ (adF sz aL aE) M0 27 H := by
  unfold cellAt
  rw [if_pos (by decide)]
  exact h 39 _ rfl
theorem w_28 {D : va_G} {κ : ClassId × ClassId × ClassId} {H : Heap} {sz aL aE : Nat} (h : va_P D classes (allW κ sz) H) : cellAt D κ (adF sz aL aE) M0 28 H := by
  unfold cellAt
  rw [if_pos (by decide)]
  exact h 40 _ rfl
theorem w_29 {D : va_G} {κ : ClassId × ClassId × ClassId} {H : Heap} {sz aL aE : Nat} (h : va_P D classes (allW κ sz) H) : cellAt D κ (adF sz aL aE) M0 29 H := by
  unfold cellAt
  rw [if_pos (by decide)]
  exact h 41 _ rfl
theorem w_30 {D : va_G} {κ : ClassId × ClassId × ClassId} {H : Heap} {sz aL aE : Nat} (h : va_P D classes (allW κ sz) H) : cellAt D κ (adF sz aL aE) M0 30 H := by
  unfold cellAt
  rw [if_pos (by decide)]
  exact h 42 _ rfl
theorem w_31 {D : va_G} {κ : ClassId × ClassId × ClassId} {H : Heap} {sz aL aE : Nat} (h : va_P D classes (allW κ sz) H) : cellAt D κ (adF sz aL aE) M0 31 H := by
  unfold cellAt
  rw [if_pos (by decide)]
  exact h 43 _ rfl
theorem w_32 {D : va_G} {κ : ClassId × ClassId × ClassId} {H : Heap} {sz aL aE : Nat} (h : va_P D classes (allW κ sz) H) : cellAt D κ (adF sz aL aE) M0 32 H := by
  unfold cellAt
  rw [if_pos (by decide)]
  exact h 44 _ rfl
theorem w_33 {D : va_G} {κ : ClassId × ClassId × ClassId} {H : Heap} {sz aL aE : Nat} (h : va_P D classes (allW κ sz) H) : cellAt D κ (adF sz aL aE) M0 33 H := by
  unfold cellAt
  rw [if_pos (by decide)]
  exact h 45 _ rfl
theorem w_34 {D : va_G} {κ : ClassId × ClassId × ClassId} {H : Heap} {sz aL aE : Nat} (h : va_P D classes (allW κ sz) H) : cellAt D κ (adF sz aL aE) M0 34 H := by
  unfold cellAt
  rw [if_pos (by decide)]
  exact h 46 _ rfl
theorem w_35 {D : va_G} {κ : ClassId × ClassId × ClassId} {H : Heap} {sz aL aE : Nat} (h : va_P D classes (allW κ sz) H) : cellAt D κ (adF sz aL aE) M0 35 H := by
  unfold cellAt
  rw [if_neg (by decide), if_neg (by decide), if_neg (by decide)]
  obtain ⟨r, hr, hb⟩ := h 47 _ rfl
  cases hr
  refine hb.to (fun j hj => ?_)
  have hj : j < 1 := hj
  match j, hj with
  | 0, _ => rfl
  | j + 1, hj => exact absurd hj (by omega)
theorem w_36 {D : va_G} {κ : ClassId × ClassId × ClassId} {H : Heap} {sz aL aE : Nat} (h : va_P D classes (allW κ sz) H) : cellAt D κ (adF sz aL aE) M0 36 H := by
  unfold cellAt
  rw [if_neg (by decide), if_pos (by decide)]
  have e2 : H[sz + 48]? = some (arrV κ.2.1 5 (fun j => va_rf ((va_up (va_up (va_up (va_up (va_up (fun _ => none) 0 (some (sz + 49))) 1 (some (sz + 51))) 2 (some (sz + 53))) 3 (some (sz + 55))) 4 (some (sz + 57))) j))) := h 48 _ rfl
  refine e2.trans (congrArg some (arr_cg (g := fun j => Value.ref (adF sz aL aE (rb 36 + j))) (fun j hj => ?_)))
  have hj : j < 5 := hj
  match j, hj with
  | 0, _ => rfl
  | 1, _ => rfl
  | 2, _ => rfl
  | 3, _ => rfl
  | 4, _ => rfl
  | j + 5, hj => exact absurd hj (by omega)
theorem w_37 {D : va_G} {κ : ClassId × ClassId × ClassId} {H : Heap} {sz aL aE : Nat} (h : va_P D classes (allW κ sz) H) : cellAt D κ (adF sz aL aE) M0 37 H := by
  unfold cellAt
  rw [if_neg (by decide), if_neg (by decide), if_neg (by decide)]
  obtain ⟨r, hr, hb⟩ := h 59 _ rfl
  cases hr
  refine hb.to (fun j hj => ?_)
  have hj : j < 1 := hj
  match j, hj with
  | 0, _ => rfl
  | j + 1, hj => exact absurd hj (by omega)
theorem w_38 {D : va_G} {κ : ClassId × ClassId × ClassId} {H : Heap} {sz aL aE : Nat} (h : va_P D classes (allW κ sz) H) : cellAt D κ (adF sz aL aE) M0 38 H := by
  unfold cellAt
  rw [if_neg (by decide), if_pos (by decide)]
  have e2 : H[sz + 60]? = some (arrV κ.2.1 5 (fun j => va_rf ((va_up (va_up (va_up (va_up (va_up (fun _ => none) 0 (some (sz + 61))) 1 (some (sz + 63))) 2 (some (sz + 65))) 3 (some (sz + 67))) 4 (some (sz + 69))) j))) := h 60 _ rfl
  refine e2.trans (congrArg some (arr_cg (g := fun j => Value.ref (adF sz aL aE (rb 38 + j))) (fun j hj => ?_)))
  have hj : j < 5 := hj
  match j, hj with
  | 0, _ => rfl
  | 1, _ => rfl
  | 2, _ => rfl
  | 3, _ => rfl
  | 4, _ => rfl
  | j + 5, hj => exact absurd hj (by omega)
theorem w_39 {D : va_G} {κ : ClassId × ClassId × ClassId} {H : Heap} {sz aL aE : Nat} (h : va_P D classes (allW κ sz) H) : cellAt D κ (adF sz aL aE) M0 39 H := by
  unfold cellAt
  rw [if_pos (by decide)]
  exact h 95 _ rfl
theorem w_40 {D : va_G} {κ : ClassId × ClassId × ClassId} {H : Heap} {sz aL aE : Nat} (h : va_P D classes (allW κ sz) H) : cellAt D κ (adF sz aL aE) M0 40 H := by
  unfold cellAt
  rw [if_pos (by decide)]
  exact h 94 _ rfl
theorem w_41 {D : va_G} {κ : ClassId × ClassId × ClassId} {H : Heap} {sz aL aE : Nat} (h : va_P D classes (allW κ sz) H) : cellAt D κ (adF sz aL aE) M0 41 H := by
  unfold cellAt
  rw [if_neg (by decide), if_neg (by decide), if_neg (by decide)]
  obtain ⟨r, hr, hb⟩ := h 2 _ rfl
  cases hr
  refine hb.to (fun j hj => ?_)
  have hj : j < 2 := hj
  match j, hj with
  | 0, _ => rfl
  | 1, _ => rfl
  | j + 2, hj => exact absurd hj (by omega)
theorem w_42 {D : va_G} {κ : ClassId × ClassId × ClassId} {H : Heap} {sz aL aE : Nat} (h : va_P D classes (allW κ sz) H) : cellAt D κ (adF sz aL aE) M0 42 H := by
  unfold cellAt
  rw [if_neg (by decide), if_neg (by decide), if_neg (by decide)]
  obtain ⟨r, hr, hb⟩ := h 4 _ rfl
  cases hr
  refine hb.to (fun j hj => ?_)
  have hj : j < 2 := hj
  match j, hj with
  | 0, _ => rfl
  | 1, _ => rfl
  | j + 2, hj => exact absurd hj (by omega)
theorem w_43 {D : va_G} {κ : ClassId × ClassId × ClassId} {H : Heap} {sz aL aE : Nat} (h : va_P D classes (allW κ sz) H) : cellAt D κ (adF sz aL aE) M0 43 H := by
  unfold cellAt
  rw [if_neg (by decide), if_neg (by decide), if_neg (by decide)]
  obtain ⟨r, hr, hb⟩ := h 6 _ rfl
  cases hr
  refine hb.to (fun j hj => ?_)
  have hj : j < 2 := hj
  match j, hj with
  | 0, _ => rfl
  | 1, _ => rfl
  | j + 2, hj => exact absurd hj (by omega)
theorem w_44 {D : va_G} {κ : ClassId × ClassId × ClassId} {H : Heap} {sz aL aE : Nat} (h : va_P D classes (allW κ sz) H) : cellAt D κ (adF sz aL aE) M0 44 H := by
  unfold cellAt
  rw [if_neg (by decide), if_neg (by decide), if_neg (by decide)]
  obtain ⟨r, hr, hb⟩ := h 8 _ rfl
  cases hr
  refine hb.to (fun j hj => ?_)
  have hj : j < 2 := hj
  match j, hj with
  | 0, _ => rfl
  | 1, _ => rfl
  | j + 2, hj => exact absurd hj (by omega)
theorem w_45 {D : va_G} {κ : ClassId × ClassId × ClassId} {H : Heap} {sz aL aE : Nat} (h : va_P D classes (allW κ sz) H) : cellAt D κ (adF sz aL aE) M0 45 H := by
  unfold cellAt
  rw [if_neg (by decide), if_neg (by decide), if_neg (by decide)]
  obtain ⟨r, hr, hb⟩ := h 10 _ rfl
  cases hr
  refine hb.to (fun j hj => ?_)
  have hj : j < 2 := hj
  match j, hj with
  | 0, _ => rfl
  | 1, _ => rfl
  | j + 2, hj => exact absurd hj (by omega)
theorem w_46 {D : va_G} {κ : ClassId × ClassId × ClassId} {H : Heap} {sz aL aE : Nat} (h : va_P D classes (allW κ sz) H) : cellAt D κ (adF sz aL aE) M0 46 H := by
  unfold cellAt
  rw [if_pos (by decide)]
  exact h 3 _ rfl
theorem w_47 {D : va_G} {κ : ClassId × ClassId × ClassId} {H : Heap} {sz aL aE : Nat} (h : va_P D classes (allW κ sz) H) : cellAt D κ (adF sz aL aE) M0 47 H := by
  unfold cellAt
  rw [if_pos (by decide)]
  exact h 5 _ rfl
theorem w_48 {D : va_G} {κ : ClassId × ClassId × ClassId} {H : Heap} {sz aL aE : Nat} (h : va_P D classes (allW κ sz) H) : cellAt D κ (adF sz aL aE) M0 48 H := by
  unfold cellAt
  rw [if_pos (by decide)]
  exact h 7 _ rfl
theorem w_49 {D : va_G} {κ : ClassId × ClassId × ClassId} {H : Heap} {sz aL aE : Nat} (h : va_P D classes (allW κ sz) H) : cellAt D κ (adF sz aL aE) M0 49 H := by
  unfold cellAt
  rw [if_pos (by decide)]
  exact h 9 _ rfl
theorem w_50 {D : va_G} {κ : ClassId × ClassId × ClassId} {H : Heap} {sz aL aE : Nat} (h : va_P D classes (allW κ sz) H) : cellAt D κ (adF sz aL aE) M0 50 H := by
  unfold cellAt
  rw [if_pos (by decide)]
  exact h 11 _ rfl
theorem w_51 {D : va_G} {κ : ClassId × ClassId × ClassId} {H : Heap} {sz aL aE : Nat} (h : va_P D classes (allW κ sz) H) : cellAt D κ (adF sz aL aE) M0 51 H := by
  unfold cellAt
  rw [if_neg (by decide), if_neg (by decide), if_neg (by decide)]
  obtain ⟨r, hr, hb⟩ := h 49 _ rfl
  cases hr
  refine hb.to (fun j hj => ?_)
  have hj : j < 2 := hj
  match j, hj with
  | 0, _ => rfl
  | 1, _ => rfl
  | j + 2, hj => exact absurd hj (by omega)
theorem w_52 {D : va_G} {κ : ClassId × ClassId × ClassId} {H : Heap} {sz aL aE : Nat} (h : va_P D classes (allW κ sz) H) : cellAt D κ (adF sz aL aE) M0 52 H := by
  unfold cellAt
  rw [if_neg (by decide), if_neg (by decide), if_neg (by decide)]
  obtain ⟨r, hr, hb⟩ := h 51 _ rfl
  cases hr
  refine hb.to (fun j hj => ?_)
  have hj : j < 2 := hj
  match j, hj with
  | 0, _ => rfl
  | 1, _ => rfl
  | j + 2, hj => exact absurd hj (by omega)
theorem w_53 {D : va_G} {κ : ClassId × ClassId × ClassId} {H : Heap} {sz aL aE : Nat} (h : va_P D classes (allW κ sz) H) : cellAt D κ (adF sz aL aE) M0 53 H := by
  unfold cellAt
  rw [if_neg (by decide), if_neg (by decide), if_neg (by decide)]
  obtain ⟨r, hr, hb⟩ := h 53 _ rfl
  cases hr
  refine hb.to (fun j hj => ?_)
  have hj : j < 2 := hj
  match j, hj with
  | 0, _ => rfl
  | 1, _ => rfl
  | j + 2, hj => exact absurd hj (by omega)
theorem w_54 {D : va_G} {κ : ClassId × ClassId × ClassId} {H : Heap} {sz aL aE : Nat} (h : va_P D classes (allW κ sz) H) : cellAt D κ (adF sz aL aE) M0 54 H := by
  unfold cellAt
  rw [if_neg (by decide), if_neg (by decide), if_neg (by decide)]
  obtain ⟨r, hr, hb⟩ := h 55 _ rfl
  cases hr
  refine hb.to (fun j hj => ?_)
  have hj : j < 2 := hj
  match j, hj with
  | 0, _ => rfl
  | 1, _ => rfl
  | j + 2, hj => exact absurd hj (by omega)
theorem w_55 {D : va_G} {κ : ClassId × ClassId × ClassId} {H : Heap} {sz aL aE : Nat} (h : va_P D classes (allW κ sz) H) : cellAt D κ (adF sz aL aE) M0 55 H := by
  unfold cellAt
  rw [if_neg (by decide), if_neg (by decide), if_neg (by decide)]
  obtain ⟨r, hr, hb⟩ := h 57 _ rfl
  cases hr
  refine hb.to (fun j hj => ?_)
  have hj : j < 2 := hj
  match j, hj with
  | 0, _ => rfl
  | 1, _ => rfl
  | j + 2, hj => exact absurd hj (by omega)
theorem w_56 {D : va_G} {κ : ClassId × ClassId × ClassId} {H : Heap} {sz aL aE : Nat} (h : va_P D classes (allW κ sz) H) : cellAt D κ (adF sz aL aE) M0 56 H := by
  unfold cellAt
  rw [if_pos (by decide)]
  exact h 50 _ rfl
theorem w_57 {D : va_G} {κ : ClassId × ClassId × ClassId} {H : Heap} {sz aL aE : Nat} (h : va_P D classes (allW κ sz) H) : cellAt D κ (adF sz aL aE) M0 57 H := by
  unfold cellAt
  rw [if_pos (by decide)]
  exact h 52 _ rfl
theorem w_58 {D : va_G} {κ : ClassId × ClassId × ClassId} {H : Heap} {sz aL aE : Nat} (h : va_P D classes (allW κ sz) H) : cellAt D κ (adF sz aL aE) M0 58 H := by
  unfold cellAt
  rw [if_pos (by decide)]
  exact h 54 _ rfl
theorem w_59 {D : va_G} {κ : ClassId × ClassId × ClassId} {H : Heap} {sz aL aE : Nat} (h : va_P D classes (allW κ sz) H) : cellAt D κ (adF sz aL aE) M0 59 H := by
  unfold cellAt
  rw [if_pos (by decide)]
  exact h 56 _ rfl
theorem w_60 {D : va_G} {κ : ClassId × ClassId × ClassId} {H : Heap} {sz aL aE : Nat} (h : va_P D classes (allW κ sz) H) : cellAt D κ (adF sz aL aE) M0 60 H := by
  unfold cellAt
  rw [if_pos (by decide)]
  exact h 58 _ rfl
theorem w_61 {D : va_G} {κ : ClassId × ClassId × ClassId} {H : Heap} {sz aL aE : Nat} (h : va_P D classes (allW κ sz) H) : cellAt D κ (adF sz aL aE) M0 61 H := by
  unfold cellAt
  rw [if_neg (by decide), if_neg (by decide), if_neg (by decide)]
  obtain ⟨r, hr, hb⟩ := h 61 _ rfl
  cases hr
  refine hb.to (fun j hj => ?_)
  have hj : j < 2 := hj
  match j, hj with
  | 0, _ => rfl
  | 1, _ => rfl
  | j + 2, hj => exact absurd hj (by omega)
theorem w_62 {D : va_G} {κ : ClassId × ClassId × ClassId} {H : Heap} {sz aL aE : Nat} (h : va_P D classes (allW κ sz) H) : cellAt D κ (adF sz aL aE) M0 62 H := by
  unfold cellAt
  rw [if_neg (by decide), if_neg (by decide), if_neg (by decide)]
  obtain ⟨r, hr, hb⟩ := h 63 _ rfl
  cases hr
  refine hb.to (fun j hj => ?_)
  have hj : j < 2 := hj
  match j, hj with
  | 0, _ => rfl
  | 1, _ => rfl
  | j + 2, hj => exact absurd hj (by omega)
theorem w_63 {D : va_G} {κ : ClassId × ClassId × ClassId} {H : Heap} {sz aL aE : Nat} (h : va_P D classes (allW κ sz) H) : cellAt D κ (adF sz aL aE) M0 63 H := by
  unfold cellAt
  rw [if_neg (by decide), if_neg (by decide), if_neg (by decide)]
  obtain ⟨r, hr, hb⟩ := h 65 _ rfl
  cases hr
  refine hb.to (fun j hj => ?_)
  have hj : j < 2 := hj
  match j, hj with
  | 0, _ => rfl
  | 1, _ => rfl
  | j + 2, hj => exact absurd hj (by omega)
theorem w_64 {D : va_G} {κ : ClassId × ClassId × ClassId} {H : Heap} {sz aL aE : Nat} (h : va_P D classes (allW κ sz) H) : cellAt D κ (adF sz aL aE) M0 64 H := by
  unfold cellAt
  rw [if_neg (by decide), if_neg (by decide), if_neg (by decide)]
  obtain ⟨r, hr, hb⟩ := h 67 _ rfl
  cases hr
  refine hb.to (fun j hj => ?_)
  have hj : j < 2 := hj
  match j, hj with
  | 0, _ => rfl
  | 1, _ => rfl
  | j + 2, hj => exact absurd hj (by omega)
theorem w_65 {D : va_G} {κ : ClassId × ClassId × ClassId} {H : Heap} {sz aL aE : Nat} (h : va_P D classes (allW κ sz) H) : cellAt D κ (adF sz aL aE) M0 65 H := by
  unfold cellAt
  rw [if_neg (by decide), if_neg (by decide), if_neg (by decide)]
  obtain ⟨r, hr, hb⟩ := h 69 _ rfl
  cases hr
  refine hb.to (fun j hj => ?_)
  have hj : j < 2 := hj
  match j, hj with
  | 0, _ => rfl
  | 1, _ => rfl
  | j + 2, hj => exact absurd hj (by omega)
theorem w_66 {D : va_G} {κ : ClassId × ClassId × ClassId} {H : Heap} {sz aL aE : Nat} (h : va_P D classes (allW κ sz) H) : cellAt D κ (adF sz aL aE) M0 66 H := by
  unfold cellAt
  rw [if_pos (by decide)]
  exact h 62 _ rfl
theorem w_67 {D : va_G} {κ : ClassId × ClassId × ClassId} {H : Heap} {sz aL aE : Nat} (h : va_P D classes (allW κ sz) H) : cellAt D κ (adF sz aL aE) M0 67 H := by
  unfold cellAt
  rw [if_pos (by decide)]
  exact h 64 _ rfl
theorem w_68 {D : va_G} {κ : ClassId × ClassId × ClassId} {H : Heap} {sz aL aE : Nat} (h : va_P D classes (allW κ sz) H) : cellAt D κ (adF sz aL aE) M0 68 H := by
  unfold cellAt
  rw [if_pos (by decide)]
  exact h 66 _ rfl
theorem w_69 {D : va_G} {κ : ClassId × ClassId × ClassId} {H : Heap} {sz aL aE : Nat} (h : va_P D classes (allW κ sz) H) : cellAt D κ (adF sz aL aE) M0 69 H := by
  unfold cellAt
  rw [if_pos (by decide)]
  exact h 68 _ rfl
theorem w_70 {D : va_G} {κ : ClassId × ClassId × ClassId} {H : Heap} {sz aL aE : Nat} (h : va_P D classes (allW κ sz) H) : cellAt D κ (adF sz aL aE) M0 70 H := by
  unfold cellAt
  rw [if_pos (by decide)]
  exact h 70 _ rfl
theorem w_71 {D : va_G} {κ : ClassId × ClassId × ClassId} {H : Heap} {sz aL aE : Nat} (h : va_P D classes (allW κ sz) H) : cellAt D κ (adF sz aL aE) M0 71 H := by
  unfold cellAt
  rw [if_neg (by decide), if_neg (by decide), if_neg (by decide)]
  obtain ⟨r, hr, hb⟩ := h 12 _ rfl
  cases hr
  refine hb.to (fun j hj => ?_)
  have hj : j < 2 := hj
  match j, hj with
  | 0, _ => rfl
  | 1, _ => rfl
  | j + 2, hj => exact absurd hj (by omega)
theorem w_72 {D : va_G} {κ : ClassId × ClassId × ClassId} {H : Heap} {sz aL aE : Nat} (h : va_P D classes (allW κ sz) H) : cellAt D κ (adF sz aL aE) M0 72 H := by
  unfold cellAt
  rw [if_neg (by decide), if_neg (by decide), if_neg (by decide)]
  obtain ⟨r, hr, hb⟩ := h 71 _ rfl
  cases hr
  refine hb.to (fun j hj => ?_)
  have hj : j < 40 := hj
  match j, hj with
  | 0, _ => rfl
  | 1, _ => rfl
  | 2, _ => rfl
  | 3, _ => rfl
  | 4, _ => rfl
  | 5, _ => rfl
  | 6, _ => rfl
  | 7, _ => rfl
  | 8, _ => rfl
  | 9, _ => rfl
  | 10, _ => rfl
  | 11, _ => rfl
  | 12, _ => rfl
  | 13, _ => rfl
  | 14, _ => rfl
  | 15, _ => rfl
  | 16, _ => rfl
  | 17, _ => rfl
  | 18, _ => rfl
  | 19, _ => rfl
  | 20, _ => rfl
  | 21, _ => rfl
  | 22, _ => rfl
  | 23, _ => rfl
  | 24, _ => rfl
  | 25, _ => rfl
  | 26, _ => rfl
  | 27, _ => rfl
  | 28, _ => rfl
  | 29, _ => rfl
  | 30, _ => rfl
  | 31, _ => rfl
  | 32, _ => rfl
  | 33, _ => rfl
  | 34, _ => rfl
  | 35, _ => rfl
  | 36, _ => rfl
  | 37, _ => rfl
  | 38, _ => rfl
  | 39, _ => rfl
  | j + 40, hj => exact absurd hj (by omega)
theorem w_73 {D : va_G} {κ : ClassId × ClassId × ClassId} {H : Heap} {sz aL aE : Nat} (h : va_P D classes (allW κ sz) H) : cellAt D κ (adF sz aL aE) M0 73 H := by
  unfold cellAt
  rw [if_pos (by decide)]
  exact h 72 _ rfl
theorem w_74 {D : va_G} {κ : ClassId × ClassId × ClassId} {H : Heap} {sz aL aE : Nat} (h : va_P D classes (allW κ sz) H) : cellAt D κ (adF sz aL aE) M0 74 H := by
  unfold cellAt
  rw [if_pos (by decide)]
  exact h 73 _ rfl
theorem w_75 {D : va_G} {κ : ClassId × ClassId × ClassId} {H : Heap} {sz aL aE : Nat} (h : va_P D classes (allW κ sz) H) : cellAt D κ (adF sz aL aE) M0 75 H := by
  unfold cellAt
  rw [if_pos (by decide)]
  exact h 74 _ rfl
theorem w_76 {D : va_G} {κ : ClassId × ClassId × ClassId} {H : Heap} {sz aL aE : Nat} (h : va_P D classes (allW κ sz) H) : cellAt D κ (adF sz aL aE) M0 76 H := by
  unfold cellAt
  rw [if_pos (by decide)]
  exact h 13 _ rfl
theorem w_77 {D : va_G} {κ : ClassId × ClassId × ClassId} {H : Heap} {sz aL aE : Nat} (h : va_P D classes (allW κ sz) H) : cellAt D κ (adF sz aL aE) M0 77 H := by
  unfold cellAt
  rw [if_pos (by decide)]
  exact h 75 _ rfl
theorem w_78 {D : va_G} {κ : ClassId × ClassId × ClassId} {H : Heap} {sz aL aE : Nat} (h : va_P D classes (allW κ sz) H) : cellAt D κ (adF sz aL aE) M0 78 H := by
  unfold cellAt
  rw [if_pos (by decide)]
  exact h 76 _ rfl
theorem w_79 {D : va_G} {κ : ClassId × ClassId × ClassId} {H : Heap} {sz aL aE : Nat} (h : va_P D classes (allW κ sz) H) : cellAt D κ (adF sz aL aE) M0 79 H := by
  unfold cellAt
  rw [if_pos (by decide)]
  exact h 77 _ rfl
theorem w_80 {D : va_G} {κ : ClassId × ClassId × ClassId} {H : Heap} {sz aL aE : Nat} (h : va_P D classes (allW κ sz) H) : cellAt D κ (adF sz aL aE) M0 80 H := by
  unfold cellAt
  rw [if_pos (by decide)]
  exact h 78 _ rfl
theorem w_81 {D : va_G} {κ : ClassId × ClassId × ClassId} {H : Heap} {sz aL aE : Nat} (h : va_P D classes (allW κ sz) H) : cellAt D κ (adF sz aL aE) M0 81 H := by
  unfold cellAt
  rw [if_pos (by decide)]
  exact h 79 _ rfl
theorem w_82 {D : va_G} {κ : ClassId × ClassId × ClassId} {H : Heap} {sz aL aE : Nat} (h : va_P D classes (allW κ sz) H) : cellAt D κ (adF sz aL aE) M0 82 H := by
  unfold cellAt
  rw [if_pos (by decide)]
  exact h 80 _ rfl
theorem w_83 {D : va_G} {κ : ClassId × ClassId × ClassId} {H : Heap} {sz aL aE : Nat} (h : va_P D classes (allW κ sz) H) : cellAt D κ (adF sz aL aE) M0 83 H := by
  unfold cellAt
  rw [if_pos (by decide)]
  exact h 81 _ rfl
theorem w_84 {D : va_G} {κ : ClassId × ClassId × ClassId} {H : Heap} {sz aL aE : Nat} (h : va_P D classes (allW κ sz) H) : cellAt D κ (adF sz aL aE) M0 84 H := by
  unfold cellAt
  rw [if_pos (by decide)]
  exact h 82 _ rfl
theorem w_85 {D : va_G} {κ : ClassId × ClassId × ClassId} {H : Heap} {sz aL aE : Nat} (h : va_P D classes (allW κ sz) H) : cellAt D κ (adF sz aL aE) M0 85 H := by
  unfold cellAt
  rw [if_pos (by decide)]
  exact h 83 _ rfl
theorem w_86 {D : va_G} {κ : ClassId × ClassId × ClassId} {H : Heap} {sz aL aE : Nat} (h : va_P D classes (allW κ sz) H) : cellAt D κ (adF sz aL aE) M0 86 H := by
  unfold cellAt
  rw [if_pos (by decide)]
  exact h 84 _ rfl
theorem w_87 {D : va_G} {κ : ClassId × ClassId × ClassId} {H : Heap} {sz aL aE : Nat} (h : va_P D classes (allW κ sz) H) : cellAt D κ (adF sz aL aE) M0 87 H := by
  unfold cellAt
  rw [if_pos (by decide)]
  exact h 85 _ rfl
theorem w_88 {D : va_G} {κ : ClassId × ClassId × ClassId} {H : Heap} {sz aL aE : Nat} (h : va_P D classes (allW κ sz) H) : cellAt D κ (adF sz aL aE) M0 88 H := by
  unfold cellAt
  rw [if_pos (by decide)]
  exact h 86 _ rfl
theorem w_89 {D : va_G} {κ : ClassId × ClassId × ClassId} {H : Heap} {sz aL aE : Nat} (h : va_P D classes (allW κ sz) H) : cellAt D κ (adF sz aL aE) M0 89 H := by
  unfold cellAt
  rw [if_pos (by decide)]
  exact h 87 _ rfl
theorem w_90 {D : va_G} {κ : ClassId × ClassId × ClassId} {H : Heap} {sz aL aE : Nat} (h : va_P D classes (allW κ sz) H) : cellAt D κ (adF sz aL aE) M0 90 H := by
  unfold cellAt
  rw [if_pos (by decide)]
  exact h 88 _ rfl
theorem w_91 {D : va_G} {κ : ClassId × ClassId × ClassId} {H : Heap} {sz aL aE : Nat} (h : va_P D classes (allW κ sz) H) : cellAt D κ (adF sz aL aE) M0 91 H := by
  unfold cellAt
  rw [if_pos (by decide)]
  exact h 89 _ rfl
theorem w_92 {D : va_G} {κ : ClassId × ClassId × ClassId} {H : Heap} {sz aL aE : Nat} (h : va_P D classes (allW κ sz) H) : cellAt D κ (adF sz aL aE) M0 92 H := by
  unfold cellAt
  rw [if_pos (by decide)]
  exact h 90 _ rfl
theorem w_93 {D : va_G} {κ : ClassId × ClassId × ClassId} {H : Heap} {sz aL aE : Nat} (h : va_P D classes (allW κ sz) H) : cellAt D κ (adF sz aL aE) M0 93 H := by
  unfold cellAt
  rw [if_pos (by decide)]
  exact h 91 _ rfl
theorem w_94 {D : va_G} {κ : ClassId × ClassId × ClassId} {H : Heap} {sz aL aE : Nat} (h : va_P D classes (allW κ sz) H) : cellAt D κ (adF sz aL aE) M0 94 H := by
  unfold cellAt
  rw [if_pos (by decide)]
  exact h 92 _ rfl
theorem w_95 {D : va_G} {κ : ClassId × ClassId × ClassId} {H : Heap} {sz aL aE : Nat} (h : va_P D classes (allW κ sz) H) : cellAt D κ (adF sz aL aE) M0 95 H := by
  unfold cellAt
  rw [if_pos (by decide)]
  exact h 93 _ rfl
theorem allW_Wd {D : va_G} {κ : ClassId × ClassId × ClassId} {H : Heap} {sz aL aE : Nat} (h : va_P D classes (allW κ sz) H) : Wd D κ (adF sz aL aE) M0 H := by
  refine ⟨fun t ht => ?_, fun j _ => rfl, fun j _ => rfl⟩
  match t, ht with
  | 0, _ => exact w_0 h
  | 1, _ => exact w_1 h
  | 2, _ => exact w_2 h
  | 3, _ => exact w_3 h
  | 4, _ => exact w_4 h
  | 5, _ => exact w_5 h
  | 6, _ => exact w_6 h
  | 7, _ => exact w_7 h
  | 8, _ => exact w_8 h
  | 9, _ => exact w_9 h
  | 10, _ => exact w_10 h
  | 11, _ => exact w_11 h
  | 12, _ => exact w_12 h
  | 13, _ => exact w_13 h
  | 14, _ => exact w_14 h
  | 15, _ => exact w_15 h
  | 16, _ => exact w_16 h
  | 17, _ => exact w_17 h
  | 18, _ => exact w_18 h
  | 19, _ => exact w_19 h
  | 20, _ => exact w_20 h
  | 21, _ => exact w_21 h
  | 22, _ => exact w_22 h
  | 23, _ => exact w_23 h
  | 24, _ => exact w_24 h
  | 25, _ => exact w_25 h
  | 26, _ => exact w_26 h
  | 27, _ => exact w_27 h
  | 28, _ => exact w_28 h
  | 29, _ => exact w_29 h
  | 30, _ => exact w_30 h
  | 31, _ => exact w_31 h
  | 32, _ => exact w_32 h
  | 33, _ => exact w_33 h
  | 34, _ => exact w_34 h
  | 35, _ => exact w_35 h
  | 36, _ => exact w_36 h
  | 37, _ => exact w_37 h
  | 38, _ => exact w_38 h
  | 39, _ => exact w_39 h
  | 40, _ => exact w_40 h
  | 41, _ => exact w_41 h
  | 42, _ => exact w_42 h
  | 43, _ => exact w_43 h
  | 44, _ => exact w_44 h
  | 45, _ => exact w_45 h
  | 46, _ => exact w_46 h
  | 47, _ => exact w_47 h
  | 48, _ => exact w_48 h
  | 49, _ => exact w_49 h
  | 50, _ => exact w_50 h
  | 51, _ => exact w_51 h
  | 52, _ => exact w_52 h
  | 53, _ => exact w_53 h
  | 54, _ => exact w_54 h
  | 55, _ => exact w_55 h
  | 56, _ => exact w_56 h
  | 57, _ => exact w_57 h
  | 58, _ => exact w_58 h
  | 59, _ => exact w_59 h
  | 60, _ => exact w_60 h
  | 61, _ => exact w_61 h
  | 62, _ => exact w_62 h
  | 63, _ => exact w_63 h
  | 64, _ => exact w_64 h
  | 65, _ => exact w_65 h
  | 66, _ => exact w_66 h
  | 67, _ => exact w_67 h
  | 68, _ => exact w_68 h
  | 69, _ => exact w_69 h
  | 70, _ => exact w_70 h
  | 71, _ => exact w_71 h
  | 72, _ => exact w_72 h
  | 73, _ => exact w_73 h
  | 74, _ => exact w_74 h
  | 75, _ => exact w_75 h
  | 76, _ => exact w_76 h
  | 77, _ => exact w_77 h
  | 78, _ => exact w_78 h
  | 79, _ => exact w_79 h
  | 80, _ => exact w_80 h
  | 81, _ => exact w_81 h
  | 82, _ => exact w_82 h
  | 83, _ => exact w_83 h
  | 84, _ => exact w_84 h
  | 85, _ => exact w_85 h
  | 86, _ => exact w_86 h
  | 87, _ => exact w_87 h
  | 88, _ => exact w_88 h
  | 89, _ => exact w_89 h
  | 90, _ => exact w_90 h
  | 91, _ => exact w_91 h
  | 92, _ => exact w_92 h
  | 93, _ => exact w_93 h
  | 94, _ => exact w_94 h
  | 95, _ => exact w_95 h
  | t + 96, ht => exact absurd ht (by omega)
theorem Inv_0 : Inv M0 := by
  refine ⟨0, 0, 51, fun _ => 0, ⟨by decide, nI_0.symm, nI_0.symm, ⟨fun i hi => absurd hi (by omega), ?_, rfl, rfl, ?_, ?_, fun a _ => rfl, Iff.rfl⟩, ⟨by decide, nI_0.symm, nI_0.symm, fun k hk => absurd hk (by omega)⟩, ?_, ⟨rfl, rfl, rfl, Or.inl nI_0.symm⟩⟩, ⟨Or.inl ⟨rfl, rfl, rfl⟩, ?_, rfl, Or.inl ⟨rfl, rfl⟩⟩⟩
  · have : ∀ k, k < 16 → M0 77 k = M0 3 k ∧ -20 ≤ (M0 3 k).toInt ∧ (M0 3 k).toInt ≤ 20 := by decide +kernel
    exact fun k hk => ⟨(this k hk).1, (this k hk).2⟩
  · exact (by decide +kernel : 0 ≤ (M0 2 1).toInt ∧ (M0 2 1).toInt ≤ 20)
  · exact (by decide +kernel : 0 ≤ (M0 2 2).toInt ∧ (M0 2 2).toInt ≤ 20)
  · exact (by decide +kernel : ∀ a, a < 4 → ∀ b, b < 4 → M0 3 (a * 4 + b) = M0 3 (b * 4 + a)) |> fun h a b ha hb => h a ha b hb
  · intro i _
    exact (by decide +kernel : 0 ≤ (0 : Int32).toInt ∧ (0 : Int32).toInt ≤ 11)
