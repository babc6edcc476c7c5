/-! ROWS OF THE JUDGEMENT G, an instruction each -/
section GR
variable {q : MI} {pc : Nat} {ls : List (Option Value)} {st : List Value} {M : Mem} {Post : Option Value → Mem → Prop}
theorem g_iadd {x y : Int32} (hd : decode q.cc pc = .ok (.iadd, 1))  (k : G q (pc + 1) ls (.int (x + y) :: st) M Post) : G q pc ls (.int y :: .int x :: st) M Post := by
  intro D κ ad p l e s m args below meth c H locs la C hW hS hl
  exact lv_iadd C.1 C.2.1 hd  (k D κ ad p l e s m args below meth c H locs la C hW hS hl)
theorem g_isub {x y : Int32} (hd : decode q.cc pc = .ok (.isub, 1))  (k : G q (pc + 1) ls (.int (x - y) :: st) M Post) : G q pc ls (.int y :: .int x :: st) M Post := by
  intro D κ ad p l e s m args below meth c H locs la C hW hS hl
  exact lv_isub C.1 C.2.1 hd  (k D κ ad p l e s m args below meth c H locs la C hW hS hl)
theorem g_imul {x y : Int32} (hd : decode q.cc pc = .ok (.imul, 1))  (k : G q (pc + 1) ls (.int (x * y) :: st) M Post) : G q pc ls (.int y :: .int x :: st) M Post := by
  intro D κ ad p l e s m args below meth c H locs la C hW hS hl
  exact lv_imul C.1 C.2.1 hd  (k D κ ad p l e s m args below meth c H locs la C hW hS hl)
theorem g_iand {x y : Int32} (hd : decode q.cc pc = .ok (.iand, 1))  (k : G q (pc + 1) ls (.int (x &&& y) :: st) M Post) : G q pc ls (.int y :: .int x :: st) M Post := by
  intro D κ ad p l e s m args below meth c H locs la C hW hS hl
  exact lv_iand C.1 C.2.1 hd  (k D κ ad p l e s m args below meth c H locs la C hW hS hl)
theorem g_ior {x y : Int32} (hd : decode q.cc pc = .ok (.ior, 1))  (k : G q (pc + 1) ls (.int (x ||| y) :: st) M Post) : G q pc ls (.int y :: .int x :: st) M Post := by
  intro D κ ad p l e s m args below meth c H locs la C hW hS hl
  exact lv_ior C.1 C.2.1 hd  (k D κ ad p l e s m args below meth c H locs la C hW hS hl)
theorem g_ixor {x y : Int32} (hd : decode q.cc pc = .ok (.ixor, 1))  (k : G q (pc + 1) ls (.int (x ^^^ y) :: st) M Post) : G q pc ls (.int y :: .int x :: st) M Post := by
  intro D κ ad p l e s m args below meth c H locs la C hW hS hl
  exact lv_ixor C.1 C.2.1 hd  (k D κ ad p l e s m args below meth c H locs la C hW hS hl)
theorem g_ishl {x y : Int32} (hd : decode q.cc pc = .ok (.ishl, 1))  (k : G q (pc + 1) ls (.int (x <<< (y &&& 31)) :: st) M Post) : G q pc ls (.int y :: .int x :: st) M Post := by
  intro D κ ad p l e s m args below meth c H locs la C hW hS hl
  exact lv_ishl C.1 C.2.1 hd  (k D κ ad p l e s m args below meth c H locs la C hW hS hl)
theorem g_ishr {x y : Int32} (hd : decode q.cc pc = .ok (.ishr, 1))  (k : G q (pc + 1) ls (.int (x >>> (y &&& 31)) :: st) M Post) : G q pc ls (.int y :: .int x :: st) M Post := by
  intro D κ ad p l e s m args below meth c H locs la C hW hS hl
  exact lv_ishr C.1 C.2.1 hd  (k D κ ad p l e s m args below meth c H locs la C hW hS hl)
theorem g_idiv {x y : Int32} (hd : decode q.cc pc = .ok (.idiv, 1)) (hne : ¬ y = 0) (k : G q (pc + 1) ls (.int (x / y) :: st) M Post) : G q pc ls (.int y :: .int x :: st) M Post := by
  intro D κ ad p l e s m args below meth c H locs la C hW hS hl
  exact lv_idiv C.1 C.2.1 hd hne (k D κ ad p l e s m args below meth c H locs la C hW hS hl)
theorem g_irem {x y : Int32} (hd : decode q.cc pc = .ok (.irem, 1)) (hne : ¬ y = 0) (k : G q (pc + 1) ls (.int (x - x / y * y) :: st) M Post) : G q pc ls (.int y :: .int x :: st) M Post := by
  intro D κ ad p l e s m args below meth c H locs la C hW hS hl
  exact lv_irem C.1 C.2.1 hd hne (k D κ ad p l e s m args below meth c H locs la C hW hS hl)
theorem g_ladd {x y : Int64} (hd : decode q.cc pc = .ok (.ladd, 1))  (k : G q (pc + 1) ls (.long (x + y) :: st) M Post) : G q pc ls (.long y :: .long x :: st) M Post := by
  intro D κ ad p l e s m args below meth c H locs la C hW hS hl
  exact lv_ladd C.1 C.2.1 hd  (k D κ ad p l e s m args below meth c H locs la C hW hS hl)
theorem g_lsub {x y : Int64} (hd : decode q.cc pc = .ok (.lsub, 1))  (k : G q (pc + 1) ls (.long (x - y) :: st) M Post) : G q pc ls (.long y :: .long x :: st) M Post := by
  intro D κ ad p l e s m args below meth c H locs la C hW hS hl
  exact lv_lsub C.1 C.2.1 hd  (k D κ ad p l e s m args below meth c H locs la C hW hS hl)
theorem g_lmul {x y : Int64} (hd : decode q.cc pc = .ok (.lmul, 1))  (k : G q (pc + 1) ls (.long (x * y) :: st) M Post) : G q pc ls (.long y :: .long x :: st) M Post := by
  intro D κ ad p l e s m args below meth c H locs la C hW hS hl
  exact lv_lmul C.1 C.2.1 hd  (k D κ ad p l e s m args below meth c H locs la C hW hS hl)
theorem g_ldiv {x y : Int64} (hd : decode q.cc pc = .ok (.ldiv, 1)) (hne : ¬ y = 0) (k : G q (pc + 1) ls (.long (x / y) :: st) M Post) : G q pc ls (.long y :: .long x :: st) M Post := by
  intro D κ ad p l e s m args below meth c H locs la C hW hS hl
  exact lv_ldiv C.1 C.2.1 hd hne (k D κ ad p l e s m args below meth c H locs la C hW hS hl)
theorem g_lcmp {x y : Int64} (hd : decode q.cc pc = .ok (.lcmp, 1))  (k : G q (pc + 1) ls (.int (lg_cmp x y) :: st) M Post) : G q pc ls (.long y :: .long x :: st) M Post := by
  intro D κ ad p l e s m args below meth c H locs la C hW hS hl
  exact W.lcmp C.1 C.2.1 hd  (k D κ ad p l e s m args below meth c H locs la C hW hS hl)
theorem g_ineg {x : Int32} (hd : decode q.cc pc = .ok (.ineg, 1))  (k : G q (pc + 1) ls (.int (-x) :: st) M Post) : G q pc ls (.int x :: st) M Post := by
  intro D κ ad p l e s m args below meth c H locs la C hW hS hl
  exact lv_ineg C.1 C.2.1 hd  (k D κ ad p l e s m args below meth c H locs la C hW hS hl)
theorem g_i2l {x : Int32} (hd : decode q.cc pc = .ok (.i2l, 1))  (k : G q (pc + 1) ls (.long x.toInt64 :: st) M Post) : G q pc ls (.int x :: st) M Post := by
  intro D κ ad p l e s m args below meth c H locs la C hW hS hl
  exact lv_i2l C.1 C.2.1 hd rfl (k D κ ad p l e s m args below meth c H locs la C hW hS hl)
theorem g_l2i {x : Int64} (hd : decode q.cc pc = .ok (.l2i, 1))  (k : G q (pc + 1) ls (.int x.toInt32 :: st) M Post) : G q pc ls (.long x :: st) M Post := by
  intro D κ ad p l e s m args below meth c H locs la C hW hS hl
  exact lv_l2i C.1 C.2.1 hd rfl (k D κ ad p l e s m args below meth c H locs la C hW hS hl)
theorem g_i2c {x : Int32} (hd : decode q.cc pc = .ok (.i2c, 1))  (k : G q (pc + 1) ls (.int (x.toUInt32 % 65536).toInt32 :: st) M Post) : G q pc ls (.int x :: st) M Post := by
  intro D κ ad p l e s m args below meth c H locs la C hW hS hl
  exact lv_i2c C.1 C.2.1 hd rfl (k D κ ad p l e s m args below meth c H locs la C hW hS hl)
theorem g_iconst {n : Int} {v : Int32} (hd : decode q.cc pc = .ok (.iconst n, 1)) (hv : Int32.ofInt n = v) (k : G q (pc + 1) ls (.int v :: st) M Post) : G q pc ls st M Post := by
  intro D κ ad p l e s m args below meth c H locs la C hW hS hl
  exact lv_iconst C.1 C.2.1 hd hv (k D κ ad p l e s m args below meth c H locs la C hW hS hl)
theorem g_bipush {n : Int} {v : Int32} (hd : decode q.cc pc = .ok (.bipush n, 2)) (hv : (Int8.ofInt n).toInt32 = v) (k : G q (pc + 2) ls (.int v :: st) M Post) : G q pc ls st M Post := by
  intro D κ ad p l e s m args below meth c H locs la C hW hS hl
  exact lv_bipush C.1 C.2.1 hd hv (k D κ ad p l e s m args below meth c H locs la C hW hS hl)
theorem g_sipush {n : Int} {v : Int32} (hd : decode q.cc pc = .ok (.sipush n, 3)) (hv : (Int16.ofInt n).toInt32 = v) (k : G q (pc + 3) ls (.int v :: st) M Post) : G q pc ls st M Post := by
  intro D κ ad p l e s m args below meth c H locs la C hW hS hl
  exact lv_sipush C.1 C.2.1 hd hv (k D κ ad p l e s m args below meth c H locs la C hW hS hl)
theorem g_lconst {n : Fin 2} (hd : decode q.cc pc = .ok (.lconst n, 1))  (k : G q (pc + 1) ls (.long (Int64.ofNat n) :: st) M Post) : G q pc ls st M Post := by
  intro D κ ad p l e s m args below meth c H locs la C hW hS hl
  exact lv_lconst C.1 C.2.1 hd rfl (k D κ ad p l e s m args below meth c H locs la C hW hS hl)
theorem cv_cat (ad : Nat → Nat) (v : Value) : (cv ad v).category = v.category := by cases v <;> rfl
theorem g_ldc {index : Nat} {v : Int32} (hd : decode q.cc pc = .ok (.ldc index, 2)) (hc : Cond.constant q.y.cls index v ∈ TB) (k : G q (pc + 2) ls (.int v :: st) M Post) : G q pc ls st M Post := by
  intro D κ ad p l e s m args below meth c H locs la C hW hS hl
  exact lv_ldc C.1 C.2.1 C.2.2.2.2.1 (C.2.2.2.2.2.1 _ (List.mem_cons_of_mem _ hc)) hd (k D κ ad p l e s m args below meth c H locs la C hW hS hl)
theorem g_ldc2 {index : Nat} {v : Int64} (hd : decode q.cc pc = .ok (.ldc2_w index, 3)) (hc : Cond.constantLong q.y.cls index v ∈ TB) (k : G q (pc + 3) ls (.long v :: st) M Post) : G q pc ls st M Post := by
  intro D κ ad p l e s m args below meth c H locs la C hW hS hl
  exact lv_ldc2 C.1 C.2.1 C.2.2.2.2.1 (C.2.2.2.2.2.1 _ (List.mem_cons_of_mem _ hc)) hd (k D κ ad p l e s m args below meth c H locs la C hW hS hl)
theorem g_dup {v : Value} (hd : decode q.cc pc = .ok (.dup, 1)) (hv : v.category = 1) (k : G q (pc + 1) ls (v :: v :: st) M Post) : G q pc ls (v :: st) M Post := by
  intro D κ ad p l e s m args below meth c H locs la C hW hS hl
  exact lv_dup C.1 C.2.1 hd ((cv_cat ad v).trans hv) (k D κ ad p l e s m args below meth c H locs la C hW hS hl)
theorem g_pop {v : Value} (hd : decode q.cc pc = .ok (.pop, 1)) (hv : v.category = 1) (k : G q (pc + 1) ls st M Post) : G q pc ls (v :: st) M Post := by
  intro D κ ad p l e s m args below meth c H locs la C hW hS hl
  exact lv_pop C.1 C.2.1 hd ((cv_cat ad v).trans hv) (k D κ ad p l e s m args below meth c H locs la C hW hS hl)
theorem g_dup2 {v w : Value} (hd : decode q.cc pc = .ok (.dup2, 1)) (hv : v.category = 1) (hw : w.category = 1) (k : G q (pc + 1) ls (v :: w :: v :: w :: st) M Post) : G q pc ls (v :: w :: st) M Post := by
  intro D κ ad p l e s m args below meth c H locs la C hW hS hl
  exact lv_dup2_11 C.1 C.2.1 hd ((cv_cat ad v).trans hv) ((cv_cat ad w).trans hw) (k D κ ad p l e s m args below meth c H locs la C hW hS hl)
theorem g_dup_x1 {v w : Value} (hd : decode q.cc pc = .ok (.dup_x1, 1)) (hv : v.category = 1) (hw : w.category = 1) (k : G q (pc + 1) ls (v :: w :: v :: st) M Post) : G q pc ls (v :: w :: st) M Post := by
  intro D κ ad p l e s m args below meth c H locs la C hW hS hl
  exact lv_dup_x1 C.1 C.2.1 hd ((cv_cat ad v).trans hv) ((cv_cat ad w).trans hw) (k D κ ad p l e s m args below meth c H locs la C hW hS hl)
theorem g_iload_n {x : Int32} {n : Fin 4} (hd : decode q.cc pc = .ok (.iload_n n, 1)) (hv : ls[n.val]? = some (some (.int x))) (k : G q (pc + 1) ls (.int x :: st) M Post) : G q pc ls st M Post := by
  intro D κ ad p l e s m args below meth c H locs la C hW hS hl
  exact lv_iload_n C.1 C.2.1 hd rfl (hl.2.2 _ _ hv) (k D κ ad p l e s m args below meth c H locs la C hW hS hl)
theorem g_iload {x : Int32} {n : Nat} (hd : decode q.cc pc = .ok (.iload n, 2)) (hv : ls[n]? = some (some (.int x))) (k : G q (pc + 2) ls (.int x :: st) M Post) : G q pc ls st M Post := by
  intro D κ ad p l e s m args below meth c H locs la C hW hS hl
  exact lv_iload C.1 C.2.1 hd (hl.2.2 _ _ hv) (k D κ ad p l e s m args below meth c H locs la C hW hS hl)
theorem g_aload_n {x : Nat} {n : Fin 4} (hd : decode q.cc pc = .ok (.aload_n n, 1)) (hv : ls[n.val]? = some (some (.ref x))) (k : G q (pc + 1) ls (.ref x :: st) M Post) : G q pc ls st M Post := by
  intro D κ ad p l e s m args below meth c H locs la C hW hS hl
  exact lv_aload_n C.1 C.2.1 hd rfl (hl.2.2 _ _ hv) (k D κ ad p l e s m args below meth c H locs la C hW hS hl)
theorem g_aload {x : Nat} {n : Nat} (hd : decode q.cc pc = .ok (.aload n, 2)) (hv : ls[n]? = some (some (.ref x))) (k : G q (pc + 2) ls (.ref x :: st) M Post) : G q pc ls st M Post := by
  intro D κ ad p l e s m args below meth c H locs la C hW hS hl
  exact lv_aload C.1 C.2.1 hd (hl.2.2 _ _ hv) (k D κ ad p l e s m args below meth c H locs la C hW hS hl)
theorem g_lload_n {x : Int64} {n : Fin 4} (hd : decode q.cc pc = .ok (.lload_n n, 1)) (hv : ls[n.val]? = some (some (.long x))) (k : G q (pc + 1) ls (.long x :: st) M Post) : G q pc ls st M Post := by
  intro D κ ad p l e s m args below meth c H locs la C hW hS hl
  exact lv_lload_n C.1 C.2.1 hd rfl (hl.2.2 _ _ hv) (k D κ ad p l e s m args below meth c H locs la C hW hS hl)
theorem g_lload {x : Int64} {n : Nat} (hd : decode q.cc pc = .ok (.lload n, 2)) (hv : ls[n]? = some (some (.long x))) (k : G q (pc + 2) ls (.long x :: st) M Post) : G q pc ls st M Post := by
  intro D κ ad p l e s m args below meth c H locs la C hW hS hl
  exact lv_lload C.1 C.2.1 hd (hl.2.2 _ _ hv) (k D κ ad p l e s m args below meth c H locs la C hW hS hl)
/-- the locals behind a store of one word at i: a long just before it is gone -/
def lset (ls : List (Option Value)) (i : Nat) (v : Value) : List (Option Value) := match i with
  | 0 => ls.set 0 (some v)
  | j + 1 => (match ls[j]? with
    | some (some (.long _)) => ls.set j none
    | some (some (.double _)) => ls.set j none
    | _ => ls).set (j + 1) (some v)
def prs (ad : Nat → Nat) (ls : List (Option Value)) : List (Nat × Value) := (List.range ls.length).filterMap (fun j => match ls[j]? with
  | some (some v) => some (j, cv ad v)
  | _ => none)
theorem prs_in {ad : Nat → Nat} {ls : List (Option Value)} {j : Nat} {v : Value} : (j, v) ∈ prs ad ls ↔ ∃ w, ls[j]? = some (some w) ∧ v = cv ad w := by
  unfold prs
  rw [List.mem_filterMap]
  constructor
  · rintro ⟨a, -, ha⟩
    split at ha
    · next w hw =>
      cases ha
      exact ⟨w, hw, rfl⟩
    · cases ha
  · rintro ⟨w, hw, rfl⟩
    exact ⟨j, List.mem_range.mpr (List.getElem?_eq_some_iff.mp hw).1, by simp [hw]⟩
theorem lvs.has {ad : Nat → Nat} {n : Nat} {ls : List (Option Value)} {la : Array Slot} (h : lvs ad n ls la) : lv_has la n (prs ad ls) := by
  refine ⟨h.1, h.2.1, fun x hx => ?_⟩
  obtain ⟨j, v⟩ := x
  obtain ⟨w, hw, rfl⟩ := prs_in.mp hx
  exact h.2.2 j w hw
theorem lvs.of {ad : Nat → Nat} {n : Nat} {ls : List (Option Value)} {la : Array Slot} {l : List (Nat × Value)} (h : lv_has la n l) (hi : ∀ (j : Nat) (v : Value), ls[j]? = some (some v) → (j, cv ad v) ∈ l) : lvs ad n ls la :=
  ⟨h.1, h.2.1, fun i v hv => h.2.2 _ (hi i v hv)⟩
theorem lset_get {ls : List (Option Value)} {i : Nat} {v : Value} {j : Nat} {w : Value} (h : (lset ls i v)[j]? = some (some w)) : (j = i ∧ w = v) ∨ (j ≠ i ∧ ls[j]? = some (some w) ∧ ¬ (j + 1 = i ∧ w.category = 2)) := by
  by_cases hj : j = i
  · left
    refine ⟨hj, ?_⟩
    subst hj
    unfold lset at h
    split at h
    · rw [List.getElem?_set] at h
      simp at h
      exact h.2.symm
    · rw [List.getElem?_set] at h
      simp at h
      exact h.2.symm
  · right
    refine ⟨hj, ?_⟩
    unfold lset at h
    split at h
    · rw [List.getElem?_set_ne (by omega)] at h
      exact ⟨h, fun q => by omega⟩
    · next k =>
      rw [List.getElem?_set_ne (by omega)] at h
      split at h
      · next hz =>
        by_cases hk : j = k
        · subst hk
          rw [List.getElem?_set] at h
          simp at h
        · rw [List.getElem?_set_ne (by omega)] at h
          exact ⟨h, fun q => by omega⟩
      · next hz =>
        by_cases hk : j = k
        · subst hk
          rw [List.getElem?_set] at h
          simp at h
        · rw [List.getElem?_set_ne (by omega)] at h
          exact ⟨h, fun q => by omega⟩
      · next h1 h2 =>
        refine ⟨h, fun q => ?_⟩
        have hk : j = k := by omega
        subst hk
        cases w with
        | long x => exact h1 x h
        | double x => exact h2 x h
        | int x => exact absurd q.2 (by simp [Value.category])
        | float x => exact absurd q.2 (by simp [Value.category])
        | ref x => exact absurd q.2 (by simp [Value.category])
        | null => exact absurd q.2 (by simp [Value.category])
        | retAddr x => exact absurd q.2 (by simp [Value.category])
theorem lvs.put {ad : Nat → Nat} {n i : Nat} {ls : List (Option Value)} {la : Array Slot} {v : Value} (h : lv_has la n ((i, cv ad v) :: (prs ad ls).filter (fun q => !(q.1 == i) && !(q.1 + 1 == i && q.2.category == 2)))) : lvs ad n (lset ls i v) la := by
  refine lvs.of h (fun j w hw => ?_)
  rcases lset_get hw with ⟨rfl, rfl⟩ | ⟨h1, h2, h3⟩
  · exact List.mem_cons_self
  · refine List.mem_cons_of_mem _ (List.mem_filter.mpr ⟨prs_in.mpr ⟨w, h2, rfl⟩, ?_⟩)
    simp only [Bool.and_eq_true, Bool.not_eq_true', beq_eq_false_iff_ne, ne_eq]
    refine ⟨h1, ?_⟩
    simp only [Bool.and_eq_false_iff, beq_eq_false_iff_ne, ne_eq, cv_cat]
    by_cases e : j + 1 = i
    · right; exact fun z => h3 ⟨e, z⟩
    · left; exact e
theorem g_istore_n {x : Int32} {n : Fin 4} (hd : decode q.cc pc = .ok (.istore_n n, 1)) (hn : n.val < q.ml) (k : G q (pc + 1) (lset ls n.val (.int x)) st M Post) : G q pc ls (.int x :: st) M Post := by
  intro D κ ad p l e s m args below meth c H locs la C hW hS hl
  exact lv_istore_n C.1 C.2.1 hd rfl hl.has hn rfl (fun la' h' => k D κ ad p l e s m args below meth c H locs la' C hW hS (lvs.put (v := .int x) h'))
theorem g_istore {x : Int32} {n : Nat} (hd : decode q.cc pc = .ok (.istore n, 2)) (hn : n < q.ml) (k : G q (pc + 2) (lset ls n (.int x)) st M Post) : G q pc ls (.int x :: st) M Post := by
  intro D κ ad p l e s m args below meth c H locs la C hW hS hl
  exact lv_istore C.1 C.2.1 hd hl.has hn rfl (fun la' h' => k D κ ad p l e s m args below meth c H locs la' C hW hS (lvs.put (v := .int x) h'))
theorem g_astore_n {x : Nat} {n : Fin 4} (hd : decode q.cc pc = .ok (.astore_n n, 1)) (hn : n.val < q.ml) (k : G q (pc + 1) (lset ls n.val (.ref x)) st M Post) : G q pc ls (.ref x :: st) M Post := by
  intro D κ ad p l e s m args below meth c H locs la C hW hS hl
  exact lv_astore_n C.1 C.2.1 hd rfl hl.has hn rfl (fun la' h' => k D κ ad p l e s m args below meth c H locs la' C hW hS (lvs.put (v := .ref x) h'))
theorem g_astore {x : Nat} {n : Nat} (hd : decode q.cc pc = .ok (.astore n, 2)) (hn : n < q.ml) (k : G q (pc + 2) (lset ls n (.ref x)) st M Post) : G q pc ls (.ref x :: st) M Post := by
  intro D κ ad p l e s m args below meth c H locs la C hW hS hl
  exact lv_astore C.1 C.2.1 hd hl.has hn rfl (fun la' h' => k D κ ad p l e s m args below meth c H locs la' C hW hS (lvs.put (v := .ref x) h'))
theorem g_iinc {x : Int32} {n : Nat} {d : Int} {v : Int32} (hd : decode q.cc pc = .ok (.iinc n d, 3)) (hx : ls[n]? = some (some (.int x))) (hv : Int32.ofInt d = v) (hn : n < q.ml) (k : G q (pc + 3) (lset ls n (.int (x + v))) st M Post) : G q pc ls st M Post := by
  intro D κ ad p l e s m args below meth c H locs la C hW hS hl
  obtain ⟨j, hj⟩ := List.getElem?_of_mem (prs_in.mpr ⟨_, hx, rfl⟩ : (n, cv ad (.int x)) ∈ prs ad ls)
  exact lv_iinc C.1 C.2.1 hd hl.has hj (v := x + v) (by rw [hv]) hn rfl (fun la' h' => k D κ ad p l e s m args below meth c H locs la' C hW hS (lvs.put (v := .int (x + v)) h'))
theorem g_goto {off : Int} {tgt : Nat} (hd : decode q.cc pc = .ok (.goto off, 3)) (ht : (pc : Int) + off = (tgt : Int)) (k : G q tgt ls st M Post) : G q pc ls st M Post := by
  intro D κ ad p l e s m args below meth c H locs la C hW hS hl
  exact lv_goto C.1 C.2.1 hd ht (k D κ ad p l e s m args below meth c H locs la C hW hS hl)
theorem g_if_eq {x : Int32} {off : Int} {tgt : Nat} (hd : decode q.cc pc = .ok (.ifCond .eq off, 3)) (ht : (pc : Int) + off = (tgt : Int)) (kt : x = 0 → G q tgt ls st M Post) (kf : ¬ x = 0 → G q (pc + 3) ls st M Post) : G q pc ls (.int x :: st) M Post := by
  intro D κ ad p l e s m args below meth c H locs la C hW hS hl
  exact lv_if_eq C.1 C.2.1 hd ht (fun h => kt h D κ ad p l e s m args below meth c H locs la C hW hS hl) (fun h => kf h D κ ad p l e s m args below meth c H locs la C hW hS hl)
theorem g_icmp_eq {x y : Int32} {off : Int} {tgt : Nat} (hd : decode q.cc pc = .ok (.if_icmp .eq off, 3)) (ht : (pc : Int) + off = (tgt : Int)) (kt : x = y → G q tgt ls st M Post) (kf : ¬ x = y → G q (pc + 3) ls st M Post) : G q pc ls (.int y :: .int x :: st) M Post := by
  intro D κ ad p l e s m args below meth c H locs la C hW hS hl
  exact lv_icmp_eq C.1 C.2.1 hd ht (fun h => kt h D κ ad p l e s m args below meth c H locs la C hW hS hl) (fun h => kf h D κ ad p l e s m args below meth c H locs la C hW hS hl)
theorem g_if_ne {x : Int32} {off : Int} {tgt : Nat} (hd : decode q.cc pc = .ok (.ifCond .ne off, 3)) (ht : (pc : Int) + off = (tgt : Int)) (kt : ¬ x = 0 → G q tgt ls st M Post) (kf : x = 0 → G q (pc + 3) ls st M Post) : G q pc ls (.int x :: st) M Post := by
  intro D κ ad p l e s m args below meth c H locs la C hW hS hl
  exact lv_if_ne C.1 C.2.1 hd ht (fun h => kt h D κ ad p l e s m args below meth c H locs la C hW hS hl) (fun h => kf h D κ ad p l e s m args below meth c H locs la C hW hS hl)
theorem g_icmp_ne {x y : Int32} {off : Int} {tgt : Nat} (hd : decode q.cc pc = .ok (.if_icmp .ne off, 3)) (ht : (pc : Int) + off = (tgt : Int)) (kt : ¬ x = y → G q tgt ls st M Post) (kf : x = y → G q (pc + 3) ls st M Post) : G q pc ls (.int y :: .int x :: st) M Post := by
  intro D κ ad p l e s m args below meth c H locs la C hW hS hl
  exact lv_icmp_ne C.1 C.2.1 hd ht (fun h => kt h D κ ad p l e s m args below meth c H locs la C hW hS hl) (fun h => kf h D κ ad p l e s m args below meth c H locs la C hW hS hl)
theorem g_if_lt {x : Int32} {off : Int} {tgt : Nat} (hd : decode q.cc pc = .ok (.ifCond .lt off, 3)) (ht : (pc : Int) + off = (tgt : Int)) (kt : x < 0 → G q tgt ls st M Post) (kf : ¬ x < 0 → G q (pc + 3) ls st M Post) : G q pc ls (.int x :: st) M Post := by
  intro D κ ad p l e s m args below meth c H locs la C hW hS hl
  exact lv_if_lt C.1 C.2.1 hd ht (fun h => kt h D κ ad p l e s m args below meth c H locs la C hW hS hl) (fun h => kf h D κ ad p l e s m args below meth c H locs la C hW hS hl)
theorem g_icmp_lt {x y : Int32} {off : Int} {tgt : Nat} (hd : decode q.cc pc = .ok (.if_icmp .lt off, 3)) (ht : (pc : Int) + off = (tgt : Int)) (kt : x < y → G q tgt ls st M Post) (kf : ¬ x < y → G q (pc + 3) ls st M Post) : G q pc ls (.int y :: .int x :: st) M Post := by
  intro D κ ad p l e s m args below meth c H locs la C hW hS hl
  exact lv_icmp_lt C.1 C.2.1 hd ht (fun h => kt h D κ ad p l e s m args below meth c H locs la C hW hS hl) (fun h => kf h D κ ad p l e s m args below meth c H locs la C hW hS hl)
theorem g_if_ge {x : Int32} {off : Int} {tgt : Nat} (hd : decode q.cc pc = .ok (.ifCond .ge off, 3)) (ht : (pc : Int) + off = (tgt : Int)) (kt : 0 ≤ x → G q tgt ls st M Post) (kf : ¬ 0 ≤ x → G q (pc + 3) ls st M Post) : G q pc ls (.int x :: st) M Post := by
  intro D κ ad p l e s m args below meth c H locs la C hW hS hl
  exact lv_if_ge C.1 C.2.1 hd ht (fun h => kt h D κ ad p l e s m args below meth c H locs la C hW hS hl) (fun h => kf h D κ ad p l e s m args below meth c H locs la C hW hS hl)
theorem g_icmp_ge {x y : Int32} {off : Int} {tgt : Nat} (hd : decode q.cc pc = .ok (.if_icmp .ge off, 3)) (ht : (pc : Int) + off = (tgt : Int)) (kt : y ≤ x → G q tgt ls st M Post) (kf : ¬ y ≤ x → G q (pc + 3) ls st M Post) : G q pc ls (.int y :: .int x :: st) M Post := by
  intro D κ ad p l e s m args below meth c H locs la C hW hS hl
  exact lv_icmp_ge C.1 C.2.1 hd ht (fun h => kt h D κ ad p l e s m args below meth c H locs la C hW hS hl) (fun h => kf h D κ ad p l e s m args below meth c H locs la C hW hS hl)
theorem g_if_gt {x : Int32} {off : Int} {tgt : Nat} (hd : decode q.cc pc = .ok (.ifCond .gt off, 3)) (ht : (pc : Int) + off = (tgt : Int)) (kt : 0 < x → G q tgt ls st M Post) (kf : ¬ 0 < x → G q (pc + 3) ls st M Post) : G q pc ls (.int x :: st) M Post := by
  intro D κ ad p l e s m args below meth c H locs la C hW hS hl
  exact lv_if_gt C.1 C.2.1 hd ht (fun h => kt h D κ ad p l e s m args below meth c H locs la C hW hS hl) (fun h => kf h D κ ad p l e s m args below meth c H locs la C hW hS hl)
theorem g_icmp_gt {x y : Int32} {off : Int} {tgt : Nat} (hd : decode q.cc pc = .ok (.if_icmp .gt off, 3)) (ht : (pc : Int) + off = (tgt : Int)) (kt : y < x → G q tgt ls st M Post) (kf : ¬ y < x → G q (pc + 3) ls st M Post) : G q pc ls (.int y :: .int x :: st) M Post := by
  intro D κ ad p l e s m args below meth c H locs la C hW hS hl
  exact lv_icmp_gt C.1 C.2.1 hd ht (fun h => kt h D κ ad p l e s m args below meth c H locs la C hW hS hl) (fun h => kf h D κ ad p l e s m args below meth c H locs la C hW hS hl)
theorem g_if_le {x : Int32} {off : Int} {tgt : Nat} (hd : decode q.cc pc = .ok (.ifCond .le off, 3)) (ht : (pc : Int) + off = (tgt : Int)) (kt : x ≤ 0 → G q tgt ls st M Post) (kf : ¬ x ≤ 0 → G q (pc + 3) ls st M Post) : G q pc ls (.int x :: st) M Post := by
  intro D κ ad p l e s m args below meth c H locs la C hW hS hl
  exact lv_if_le C.1 C.2.1 hd ht (fun h => kt h D κ ad p l e s m args below meth c H locs la C hW hS hl) (fun h => kf h D κ ad p l e s m args below meth c H locs la C hW hS hl)
theorem g_icmp_le {x y : Int32} {off : Int} {tgt : Nat} (hd : decode q.cc pc = .ok (.if_icmp .le off, 3)) (ht : (pc : Int) + off = (tgt : Int)) (kt : x ≤ y → G q tgt ls st M Post) (kf : ¬ x ≤ y → G q (pc + 3) ls st M Post) : G q pc ls (.int y :: .int x :: st) M Post := by
  intro D κ ad p l e s m args below meth c H locs la C hW hS hl
  exact lv_icmp_le C.1 C.2.1 hd ht (fun h => kt h D κ ad p l e s m args below meth c H locs la C hW hS hl) (fun h => kf h D κ ad p l e s m args below meth c H locs la C hW hS hl)
end GR
