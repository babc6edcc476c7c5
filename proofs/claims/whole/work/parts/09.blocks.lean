/-! A BLOCK of straight code, evaluated: instructions with what they look up; ks: the places at which arrays are read and written, in their order -/
abbrev AI : Type := Instr × Nat × Nat × Int32
abbrev AS : Type := Nat × List (Option Value) × List Value × Mem × List Nat
def ilen : Instr → Nat
  | .bipush _ => 2 | .sipush _ => 3 | .ldc _ => 2 | .ldc2_w _ => 3 | .iload _ => 2 | .aload _ => 2 | .lload _ => 2 | .istore _ => 2 | .astore _ => 2 | .lstore _ => 2 | .iinc _ _ => 3 | .getfield _ => 3 | .putfield _ => 3 | .getstatic _ => 3 | .goto _ => 3
  | _ => 1
/-- what is looked at ahead: the code itself, constants, links -/
def okI (q : MI) (o pc : Nat) (x : AI) : Bool :=
  decide (decode q.cc pc = .ok (x.1, ilen x.1)) && match x with
  | (.iconst n, _, _, v) => decide (Int32.ofInt n = v)
  | (.bipush n, _, _, v) => decide ((Int8.ofInt n).toInt32 = v)
  | (.sipush n, _, _, v) => decide ((Int16.ofInt n).toInt32 = v)
  | (.ldc i, _, _, v) => CT.contains (o, i, v)
  | (.ldc2_w i, _, _, _) => decide (o = 7 ∧ i = 208)
  | (.iinc n d, _, _, v) => decide (Int32.ofInt d = v) && decide (n < q.ml)
  | (.istore_n n, _, _, _) => decide (n.val < q.ml)
  | (.istore n, _, _, _) => decide (n < q.ml)
  | (.astore_n n, _, _, _) => decide (n.val < q.ml)
  | (.astore n, _, _, _) => decide (n < q.ml)
  | (.lstore n, _, _, _) => decide (n + 1 < q.ml)
  | (.getfield i, a, b, _) => FT.contains (o, i, a, b)
  | (.putfield i, a, b, _) => FT.contains (o, i, a, b) && decide ((Tn a b).2.2.2 = false) && decide (((fk a b).1 = 0 ∧ tyn a b = .int) ∨ ((fk a b).1 = 1 ∧ tyn a b = .boolean) ∨ ((fk a b).1 = 2 ∧ tyn a b = .long) ∨ ((fk a b).1 = 4 ∧ tyn a b = .object RX3))
  | (.getstatic i, a, _, _) => decide (o = 6 ∧ ((i = 155 ∧ a = 96) ∨ (i = 206 ∧ a = 97)))
  | (.goto d, a, _, _) => decide ((pc : Int) + d = (a : Int))
  | _ => true
/-- the locals behind a store of a long -/
def lset2 (ls : List (Option Value)) (i : Nat) (v : Value) : List (Option Value) := (lset ls i v).set (i + 1) none
def e_iadd (S : AS) : Option (Prop × AS) := match S with
  | (pc, ls, .int y :: .int z :: st, M, ks) => some (True, pc + 1, ls, .int (z + y) :: st, M, ks)
  | _ => none
def e_isub (S : AS) : Option (Prop × AS) := match S with
  | (pc, ls, .int y :: .int z :: st, M, ks) => some (True, pc + 1, ls, .int (z - y) :: st, M, ks)
  | _ => none
def e_imul (S : AS) : Option (Prop × AS) := match S with
  | (pc, ls, .int y :: .int z :: st, M, ks) => some (True, pc + 1, ls, .int (z * y) :: st, M, ks)
  | _ => none
def e_iand (S : AS) : Option (Prop × AS) := match S with
  | (pc, ls, .int y :: .int z :: st, M, ks) => some (True, pc + 1, ls, .int (z &&& y) :: st, M, ks)
  | _ => none
def e_ior (S : AS) : Option (Prop × AS) := match S with
  | (pc, ls, .int y :: .int z :: st, M, ks) => some (True, pc + 1, ls, .int (z ||| y) :: st, M, ks)
  | _ => none
def e_ixor (S : AS) : Option (Prop × AS) := match S with
  | (pc, ls, .int y :: .int z :: st, M, ks) => some (True, pc + 1, ls, .int (z ^^^ y) :: st, M, ks)
  | _ => none
def e_ishl (S : AS) : Option (Prop × AS) := match S with
  | (pc, ls, .int y :: .int z :: st, M, ks) => some (True, pc + 1, ls, .int (z <<< (y &&& 31)) :: st, M, ks)
  | _ => none
def e_ishr (S : AS) : Option (Prop × AS) := match S with
  | (pc, ls, .int y :: .int z :: st, M, ks) => some (True, pc + 1, ls, .int (z >>> (y &&& 31)) :: st, M, ks)
  | _ => none
def e_idiv (S : AS) : Option (Prop × AS) := match S with
  | (pc, ls, .int y :: .int z :: st, M, ks) => some (¬ y = 0, pc + 1, ls, .int (z / y) :: st, M, ks)
  | _ => none
def e_irem (S : AS) : Option (Prop × AS) := match S with
  | (pc, ls, .int y :: .int z :: st, M, ks) => some (¬ y = 0, pc + 1, ls, .int (z - z / y * y) :: st, M, ks)
  | _ => none
def e_ineg (S : AS) : Option (Prop × AS) := match S with
  | (pc, ls, .int y :: st, M, ks) => some (True, pc + 1, ls, .int (-y) :: st, M, ks)
  | _ => none
def e_i2l (S : AS) : Option (Prop × AS) := match S with
  | (pc, ls, .int y :: st, M, ks) => some (True, pc + 1, ls, .long y.toInt64 :: st, M, ks)
  | _ => none
def e_l2i (S : AS) : Option (Prop × AS) := match S with
  | (pc, ls, .long y :: st, M, ks) => some (True, pc + 1, ls, .int y.toInt32 :: st, M, ks)
  | _ => none
def e_i2c (S : AS) : Option (Prop × AS) := match S with
  | (pc, ls, .int y :: st, M, ks) => some (True, pc + 1, ls, .int (y.toUInt32 % 65536).toInt32 :: st, M, ks)
  | _ => none
def e_lsub (S : AS) : Option (Prop × AS) := match S with
  | (pc, ls, .long y :: .long z :: st, M, ks) => some (True, pc + 1, ls, .long (z - y) :: st, M, ks)
  | _ => none
def e_lmul (S : AS) : Option (Prop × AS) := match S with
  | (pc, ls, .long y :: .long z :: st, M, ks) => some (True, pc + 1, ls, .long (z * y) :: st, M, ks)
  | _ => none
def e_ldiv (S : AS) : Option (Prop × AS) := match S with
  | (pc, ls, .long y :: .long z :: st, M, ks) => some (¬ y = 0, pc + 1, ls, .long (z / y) :: st, M, ks)
  | _ => none
def e_lcmp (S : AS) : Option (Prop × AS) := match S with
  | (pc, ls, .long y :: .long z :: st, M, ks) => some (True, pc + 1, ls, .int (lg_cmp z y) :: st, M, ks)
  | _ => none
def e_dup (S : AS) : Option (Prop × AS) := match S with
  | (pc, ls, y :: st, M, ks) => some (y.category = 1, pc + 1, ls, y :: y :: st, M, ks)
  | _ => none
def e_pop (S : AS) : Option (Prop × AS) := match S with
  | (pc, ls, y :: st, M, ks) => some (y.category = 1, pc + 1, ls, st, M, ks)
  | _ => none
def e_dup2 (S : AS) : Option (Prop × AS) := match S with
  | (pc, ls, y :: z :: st, M, ks) => some (y.category = 1 ∧ z.category = 1, pc + 1, ls, y :: z :: y :: z :: st, M, ks)
  | _ => none
def e_iaload (S : AS) : Option (Prop × AS) := match S with
  | (pc, ls, .int i :: .ref t :: st, M, k :: ks) => some (i = nI k ∧ k < al t, pc + 1, ls, .int (M t k) :: st, M, ks)
  | _ => none
def e_iastore (S : AS) : Option (Prop × AS) := match S with
  | (pc, ls, .int y :: .int i :: .ref t :: st, M, k :: ks) => some (i = nI k ∧ k < al t ∧ t < 96, pc + 1, ls, st, stm M t k y, ks)
  | _ => none
def e_aaload (S : AS) : Option (Prop × AS) := match S with
  | (pc, ls, .int i :: .ref t :: st, M, k :: ks) => some (i = nI k ∧ k < rl t, pc + 1, ls, .ref (rb t + k) :: st, M, ks)
  | _ => none
def e_caload (S : AS) : Option (Prop × AS) := match S with
  | (pc, ls, .int i :: .ref t :: st, M, k :: ks) => some (i = nI k ∧ k < 4 ∧ t = 96, pc + 1, ls, .int (ltr k) :: st, M, ks)
  | _ => none
def e_push (n : Nat) (v : Value) (S : AS) : Option (Prop × AS) := some (True, S.1 + n, S.2.1, v :: S.2.2.1, S.2.2.2)
def e_iload (n j : Nat) (S : AS) : Option (Prop × AS) := match S.2.1[j]? with
  | some (some (.int y)) => some (True, S.1 + n, S.2.1, .int y :: S.2.2.1, S.2.2.2)
  | _ => none
def e_aload (n j : Nat) (S : AS) : Option (Prop × AS) := match S.2.1[j]? with
  | some (some (.ref y)) => some (True, S.1 + n, S.2.1, .ref y :: S.2.2.1, S.2.2.2)
  | _ => none
def e_lload (n j : Nat) (S : AS) : Option (Prop × AS) := match S.2.1[j]? with
  | some (some (.long y)) => some (True, S.1 + n, S.2.1, .long y :: S.2.2.1, S.2.2.2)
  | _ => none
def e_istore (n j : Nat) (S : AS) : Option (Prop × AS) := match S with
  | (pc, ls, .int y :: st, R) => some (True, pc + n, lset ls j (.int y), st, R)
  | _ => none
def e_astore (n j : Nat) (S : AS) : Option (Prop × AS) := match S with
  | (pc, ls, .ref y :: st, R) => some (True, pc + n, lset ls j (.ref y), st, R)
  | _ => none
def e_lstore (n j : Nat) (S : AS) : Option (Prop × AS) := match S with
  | (pc, ls, .long y :: st, R) => some (True, pc + n, lset2 ls j (.long y), st, R)
  | _ => none
def e_iinc (j : Nat) (v : Int32) (S : AS) : Option (Prop × AS) := match S.2.1[j]? with
  | some (some (.int y)) => some (True, S.1 + 3, lset S.2.1 j (.int (y + v)), S.2.2)
  | _ => none
def e_getfield (a b : Nat) (S : AS) : Option (Prop × AS) := match S with
  | (pc, ls, .ref t :: st, M, ks) => some (kd t = a, pc + 3, ls, fvA M a t b :: st, M, ks)
  | _ => none
def e_putfield (a b : Nat) (S : AS) : Option (Prop × AS) := match S with
  | (pc, ls, .int y :: .ref t :: st, M, ks) => if (fk a b).1 = 0 then some (kd t = a, pc + 3, ls, st, stm M t b y, ks) else if (fk a b).1 = 1 then some (kd t = a ∧ (y = 0 ∨ y = 1), pc + 3, ls, st, stm M t b y, ks) else none
  | (pc, ls, .long y :: .ref t :: st, M, ks) => if (fk a b).1 = 2 then some (kd t = a ∧ y.toInt32.toInt64 = y, pc + 3, ls, st, stm M t b y.toInt32, ks) else none
  | (pc, ls, .ref r :: .ref t :: st, M, ks) => if (fk a b).1 = 4 then some (kd t = a ∧ r < 96, pc + 3, ls, st, stm M t b (nI r), ks) else none
  | _ => none
def ev1 (x : AI) (S : AS) : Option (Prop × AS) := match x with
  | (.iconst _, _, _, v) => e_push 1 (.int v) S
  | (.bipush _, _, _, v) => e_push 2 (.int v) S
  | (.sipush _, _, _, v) => e_push 3 (.int v) S
  | (.ldc _, _, _, v) => e_push 2 (.int v) S
  | (.ldc2_w _, _, _, _) => e_push 3 (.long 100) S
  | (.lconst n, _, _, _) => e_push 1 (.long (Int64.ofNat n)) S
  | (.iload_n n, _, _, _) => e_iload 1 n.val S
  | (.iload n, _, _, _) => e_iload 2 n S
  | (.aload_n n, _, _, _) => e_aload 1 n.val S
  | (.aload n, _, _, _) => e_aload 2 n S
  | (.lload_n n, _, _, _) => e_lload 1 n.val S
  | (.lload n, _, _, _) => e_lload 2 n S
  | (.istore_n n, _, _, _) => e_istore 1 n.val S
  | (.istore n, _, _, _) => e_istore 2 n S
  | (.astore_n n, _, _, _) => e_astore 1 n.val S
  | (.astore n, _, _, _) => e_astore 2 n S
  | (.lstore n, _, _, _) => e_lstore 2 n S
  | (.iinc n _, _, _, v) => e_iinc n v S
  | (.getfield _, a, b, _) => e_getfield a b S
  | (.putfield _, a, b, _) => e_putfield a b S
  | (.getstatic _, a, _, _) => e_push 3 (.ref a) S
  | (.goto _, a, _, _) => some (True, a, S.2)
  | (.iadd, _, _, _) => e_iadd S
  | (.isub, _, _, _) => e_isub S
  | (.imul, _, _, _) => e_imul S
  | (.iand, _, _, _) => e_iand S
  | (.ior, _, _, _) => e_ior S
  | (.ixor, _, _, _) => e_ixor S
  | (.ishl, _, _, _) => e_ishl S
  | (.ishr, _, _, _) => e_ishr S
  | (.idiv, _, _, _) => e_idiv S
  | (.irem, _, _, _) => e_irem S
  | (.ineg, _, _, _) => e_ineg S
  | (.i2l, _, _, _) => e_i2l S
  | (.l2i, _, _, _) => e_l2i S
  | (.i2c, _, _, _) => e_i2c S
  | (.lsub, _, _, _) => e_lsub S
  | (.lmul, _, _, _) => e_lmul S
  | (.ldiv, _, _, _) => e_ldiv S
  | (.lcmp, _, _, _) => e_lcmp S
  | (.dup, _, _, _) => e_dup S
  | (.pop, _, _, _) => e_pop S
  | (.dup2, _, _, _) => e_dup2 S
  | (.iaload, _, _, _) => e_iaload S
  | (.iastore, _, _, _) => e_iastore S
  | (.aaload, _, _, _) => e_aaload S
  | (.caload, _, _, _) => e_caload S
  | _ => none
def evs : List AI → AS → Option (Prop × AS)
  | [], S => some (True, S)
  | x :: xs, S => match ev1 x S with
    | some (c, S1) => match evs xs S1 with
      | some (c2, S2) => some (c ∧ c2, S2)
      | none => none
    | none => none
def nxt (pc : Nat) (x : AI) : Nat := match x with
  | (.goto _, a, _, _) => a
  | (i, _, _, _) => pc + ilen i
def okL (q : MI) (o : Nat) : Nat → List AI → Bool
  | _, [] => true
  | pc, x :: xs => okI q o pc x && okL q o (nxt pc x) xs
theorem al_big {t : Nat} : al t < 2 ^ 30 := by
  rcases Nat.lt_or_ge t 98 with h1 | h1
  · have := (by decide +kernel : ∀ t, t < 98 → al t < 2 ^ 30)
    exact this t h1
  · unfold al
    rw [List.getD_eq_getElem?_getD, List.getElem?_eq_none (by show alL.length ≤ t; exact h1)]
    decide
theorem rl_big {t : Nat} : rl t < 2 ^ 30 := by
  rcases Nat.lt_or_ge t 96 with h1 | h1
  · have := (by decide +kernel : ∀ t, t < 96 → rl t < 2 ^ 30)
    exact this t h1
  · unfold rl
    rw [List.getD_eq_getElem?_getD, List.getElem?_eq_none (by show rlL.length ≤ t; exact h1)]
    decide
theorem in_al {t k : Nat} (h : k < al t) : vp_in (nI k) (al t) := vp_in_nI h (by have := @al_big t; omega)
theorem in_rl {t k : Nat} (h : k < rl t) : vp_in (nI k) (rl t) := vp_in_nI h (by have := @rl_big t; omega)
theorem cl_al {t k : Nat} (h : k < al t) : (nI k).toNatClampNeg = k := nI_clamp (by have := @al_big t; omega)
theorem cl_rl {t k : Nat} (h : k < rl t) : (nI k).toNatClampNeg = k := nI_clamp (by have := @rl_big t; omega)
section EV
variable {q : MI} {o : Nat} {Post : Option Value → Mem → Prop}
abbrev GA (q : MI) (S : AS) (Post : Option Value → Mem → Prop) : Prop := G q S.1 S.2.1 S.2.2.1 S.2.2.2.1 Post
theorem s_iadd {S S' : AS} {c : Prop} (hd : decode q.cc S.1 = .ok (.iadd, 1)) (h : e_iadd S = some (c, S')) (hc : c) (k : GA q S' Post) : GA q S Post := by
  unfold e_iadd at h
  split at h
  · cases h; exact g_iadd hd k
  · cases h
theorem s_isub {S S' : AS} {c : Prop} (hd : decode q.cc S.1 = .ok (.isub, 1)) (h : e_isub S = some (c, S')) (hc : c) (k : GA q S' Post) : GA q S Post := by
  unfold e_isub at h
  split at h
  · cases h; exact g_isub hd k
  · cases h
theorem s_imul {S S' : AS} {c : Prop} (hd : decode q.cc S.1 = .ok (.imul, 1)) (h : e_imul S = some (c, S')) (hc : c) (k : GA q S' Post) : GA q S Post := by
  unfold e_imul at h
  split at h
  · cases h; exact g_imul hd k
  · cases h
theorem s_iand {S S' : AS} {c : Prop} (hd : decode q.cc S.1 = .ok (.iand, 1)) (h : e_iand S = some (c, S')) (hc : c) (k : GA q S' Post) : GA q S Post := by
  unfold e_iand at h
  split at h
  · cases h; exact g_iand hd k
  · cases h
theorem s_ior {S S' : AS} {c : Prop} (hd : decode q.cc S.1 = .ok (.ior, 1)) (h : e_ior S = some (c, S')) (hc : c) (k : GA q S' Post) : GA q S Post := by
  unfold e_ior at h
  split at h
  · cases h; exact g_ior hd k
  · cases h
theorem s_ixor {S S' : AS} {c : Prop} (hd : decode q.cc S.1 = .ok (.ixor, 1)) (h : e_ixor S = some (c, S')) (hc : c) (k : GA q S' Post) : GA q S Post := by
  unfold e_ixor at h
  split at h
  · cases h; exact g_ixor hd k
  · cases h
theorem s_ishl {S S' : AS} {c : Prop} (hd : decode q.cc S.1 = .ok (.ishl, 1)) (h : e_ishl S = some (c, S')) (hc : c) (k : GA q S' Post) : GA q S Post := by
  unfold e_ishl at h
  split at h
  · cases h; exact g_ishl hd k
  · cases h
theorem s_ishr {S S' : AS} {c : Prop} (hd : decode q.cc S.1 = .ok (.ishr, 1)) (h : e_ishr S = some (c, S')) (hc : c) (k : GA q S' Post) : GA q S Post := by
  unfold e_ishr at h
  split at h
  · cases h; exact g_ishr hd k
  · cases h
theorem s_lsub {S S' : AS} {c : Prop} (hd : decode q.cc S.1 = .ok (.lsub, 1)) (h : e_lsub S = some (c, S')) (hc : c) (k : GA q S' Post) : GA q S Post := by
  unfold e_lsub at h
  split at h
  · cases h; exact g_lsub hd k
  · cases h
theorem s_lmul {S S' : AS} {c : Prop} (hd : decode q.cc S.1 = .ok (.lmul, 1)) (h : e_lmul S = some (c, S')) (hc : c) (k : GA q S' Post) : GA q S Post := by
  unfold e_lmul at h
  split at h
  · cases h; exact g_lmul hd k
  · cases h
theorem s_lcmp {S S' : AS} {c : Prop} (hd : decode q.cc S.1 = .ok (.lcmp, 1)) (h : e_lcmp S = some (c, S')) (hc : c) (k : GA q S' Post) : GA q S Post := by
  unfold e_lcmp at h
  split at h
  · cases h; exact g_lcmp hd k
  · cases h
theorem s_idiv {S S' : AS} {c : Prop} (hd : decode q.cc S.1 = .ok (.idiv, 1)) (h : e_idiv S = some (c, S')) (hc : c) (k : GA q S' Post) : GA q S Post := by
  unfold e_idiv at h
  split at h
  · cases h; exact g_idiv hd hc k
  · cases h
theorem s_irem {S S' : AS} {c : Prop} (hd : decode q.cc S.1 = .ok (.irem, 1)) (h : e_irem S = some (c, S')) (hc : c) (k : GA q S' Post) : GA q S Post := by
  unfold e_irem at h
  split at h
  · cases h; exact g_irem hd hc k
  · cases h
theorem s_ldiv {S S' : AS} {c : Prop} (hd : decode q.cc S.1 = .ok (.ldiv, 1)) (h : e_ldiv S = some (c, S')) (hc : c) (k : GA q S' Post) : GA q S Post := by
  unfold e_ldiv at h
  split at h
  · cases h; exact g_ldiv hd hc k
  · cases h
theorem s_ineg {S S' : AS} {c : Prop} (hd : decode q.cc S.1 = .ok (.ineg, 1)) (h : e_ineg S = some (c, S')) (hc : c) (k : GA q S' Post) : GA q S Post := by
  unfold e_ineg at h
  split at h
  · cases h; exact g_ineg hd k
  · cases h
theorem s_i2l {S S' : AS} {c : Prop} (hd : decode q.cc S.1 = .ok (.i2l, 1)) (h : e_i2l S = some (c, S')) (hc : c) (k : GA q S' Post) : GA q S Post := by
  unfold e_i2l at h
  split at h
  · cases h; exact g_i2l hd k
  · cases h
theorem s_l2i {S S' : AS} {c : Prop} (hd : decode q.cc S.1 = .ok (.l2i, 1)) (h : e_l2i S = some (c, S')) (hc : c) (k : GA q S' Post) : GA q S Post := by
  unfold e_l2i at h
  split at h
  · cases h; exact g_l2i hd k
  · cases h
theorem s_i2c {S S' : AS} {c : Prop} (hd : decode q.cc S.1 = .ok (.i2c, 1)) (h : e_i2c S = some (c, S')) (hc : c) (k : GA q S' Post) : GA q S Post := by
  unfold e_i2c at h
  split at h
  · cases h; exact g_i2c hd k
  · cases h
theorem s_dup {S S' : AS} {c : Prop} (hd : decode q.cc S.1 = .ok (.dup, 1)) (h : e_dup S = some (c, S')) (hc : c) (k : GA q S' Post) : GA q S Post := by
  unfold e_dup at h
  split at h
  · cases h; exact g_dup hd hc k
  · cases h
theorem s_pop {S S' : AS} {c : Prop} (hd : decode q.cc S.1 = .ok (.pop, 1)) (h : e_pop S = some (c, S')) (hc : c) (k : GA q S' Post) : GA q S Post := by
  unfold e_pop at h
  split at h
  · cases h; exact g_pop hd hc k
  · cases h
theorem s_dup2 {S S' : AS} {c : Prop} (hd : decode q.cc S.1 = .ok (.dup2, 1)) (h : e_dup2 S = some (c, S')) (hc : c) (k : GA q S' Post) : GA q S Post := by
  unfold e_dup2 at h
  split at h
  · cases h; exact g_dup2 hd hc.1 hc.2 k
  · cases h
theorem s_iaload {S S' : AS} {c : Prop} (hd : decode q.cc S.1 = .ok (.iaload, 1)) (h : e_iaload S = some (c, S')) (hc : c) (k : GA q S' Post) : GA q S Post := by
  unfold e_iaload at h
  split at h
  · cases h
    obtain ⟨rfl, h2⟩ := hc
    refine g_iaload hd (in_al h2) ?_
    rw [cl_al h2]; exact k
  · cases h
theorem s_iastore {S S' : AS} {c : Prop} (hd : decode q.cc S.1 = .ok (.iastore, 1)) (h : e_iastore S = some (c, S')) (hc : c) (k : GA q S' Post) : GA q S Post := by
  unfold e_iastore at h
  split at h
  · cases h
    obtain ⟨rfl, h2, h3⟩ := hc
    refine g_iastore hd (in_al h2) h3 ?_
    rw [cl_al h2]; exact k
  · cases h
theorem s_aaload {S S' : AS} {c : Prop} (hd : decode q.cc S.1 = .ok (.aaload, 1)) (h : e_aaload S = some (c, S')) (hc : c) (k : GA q S' Post) : GA q S Post := by
  unfold e_aaload at h
  split at h
  · cases h
    obtain ⟨rfl, h2⟩ := hc
    refine g_aaload hd (in_rl h2) ?_
    rw [cl_rl h2]; exact k
  · cases h
theorem s_caload {S S' : AS} {c : Prop} (hd : decode q.cc S.1 = .ok (.caload, 1)) (h : e_caload S = some (c, S')) (hc : c) (k : GA q S' Post) : GA q S Post := by
  unfold e_caload at h
  split at h
  · cases h
    obtain ⟨rfl, h2, rfl⟩ := hc
    refine g_caload hd (vp_in_nI h2 (by omega)) ?_
    rw [nI_clamp (by omega)]; exact k
  · cases h
theorem s_getfield {i a b : Nat} {S S' : AS} {c : Prop} (ho : q.y.cls = Rn o) (hd : decode q.cc S.1 = .ok (.getfield i, 3)) (hf : FT.contains (o, i, a, b) = true) (h : e_getfield a b S = some (c, S')) (hc : c) (k : GA q S' Post) : GA q S Post := by
  unfold e_getfield at h
  split at h
  · cases h
    exact g_getfield hd (by rw [ho]; exact (FT_ok hf).1) (FT_ok hf).2.1 (FT_ok hf).2.2 hc k
  · cases h
theorem fv0 {M : Mem} {c t k : Nat} {x : Int32} (h : (fk c k).1 = 0 ∨ (fk c k).1 = 1) : fvA (stm M t k x) c t k = .int x := by
  unfold fvA
  split
  · next e => rw [e] at h; omega
  · next e => rw [e] at h; omega
  · next e => rw [e] at h; omega
  · next e => rw [e] at h; omega
  · rw [stm_self]
theorem fv2 {M : Mem} {c t k : Nat} {x : Int32} (h : (fk c k).1 = 2) : fvA (stm M t k x) c t k = .long x.toInt64 := by
  unfold fvA
  split
  · rw [stm_self]
  · next e => rw [e] at h; omega
  · next e => rw [e] at h; omega
  · next e => rw [e] at h; omega
  · next h2 _ _ _ => exact absurd (Prod.ext h rfl : fk c k = (2, (fk c k).2)) (h2 _)
theorem fv4 {M : Mem} {c t k r : Nat} (h : (fk c k).1 = 4) (hr : r < 96) : fvA (stm M t k (nI r)) c t k = .ref r := by
  unfold fvA
  split
  · next e => rw [e] at h; omega
  · next e => rw [e] at h; omega
  · rw [stm_self, nI_clamp (by omega)]
  · next e => rw [e] at h; omega
  · next _ _ h2 _ => exact absurd (Prod.ext h rfl : fk c k = (4, (fk c k).2)) (h2 _)
theorem s_putfield {i a b : Nat} {S S' : AS} {c : Prop} (ho : q.y.cls = Rn o) (hd : decode q.cc S.1 = .ok (.putfield i, 3)) (hf : FT.contains (o, i, a, b) = true) (hfin : (Tn a b).2.2.2 = false) (hty : ((fk a b).1 = 0 ∧ tyn a b = .int) ∨ ((fk a b).1 = 1 ∧ tyn a b = .boolean) ∨ ((fk a b).1 = 2 ∧ tyn a b = .long) ∨ ((fk a b).1 = 4 ∧ tyn a b = .object RX3)) (h : e_putfield a b S = some (c, S')) (hc : c) (k : GA q S' Post) : GA q S Post := by
  unfold e_putfield at h
  split at h
  · split at h
    · next e =>
      cases h
      have ht : tyn a b = .int := by
        rcases hty with h | h | h | h
        · exact h.2
        · omega
        · omega
        · omega
      exact g_putfield hd (by rw [ho]; exact (FT_ok hf).1) (FT_ok hf).2.1 (FT_ok hf).2.2 hfin hc (fv0 (Or.inl e)) (fun ad => by rw [ht]; rfl) (fun ad => by rw [ht]; rfl) k
    · split at h
      · next e =>
        cases h
        have ht : tyn a b = .boolean := by
          rcases hty with h | h | h | h
          · omega
          · exact h.2
          · omega
          · omega
        refine g_putfield hd (by rw [ho]; exact (FT_ok hf).1) (FT_ok hf).2.1 (FT_ok hf).2.2 hfin hc.1 (fv0 (Or.inr e)) (fun ad => ?_) (fun ad => ?_) k
        · rw [ht]
          rcases hc.2 with rfl | rfl <;> rfl
        · rw [ht]
          rcases hc.2 with rfl | rfl <;> rfl
      · cases h
  · split at h
    · next e =>
      cases h
      have ht : tyn a b = .long := by
        rcases hty with h | h | h | h
        · omega
        · omega
        · exact h.2
        · omega
      refine g_putfield hd (by rw [ho]; exact (FT_ok hf).1) (FT_ok hf).2.1 (FT_ok hf).2.2 hfin hc.1 (by rw [fv2 e, hc.2]) (fun ad => by rw [ht]; rfl) (fun ad => by rw [ht]; rfl) k
    · cases h
  · split at h
    · next e =>
      cases h
      have ht : tyn a b = .object RX3 := by
        rcases hty with h | h | h | h
        · omega
        · omega
        · omega
        · exact h.2
      refine g_putfield hd (by rw [ho]; exact (FT_ok hf).1) (FT_ok hf).2.1 (FT_ok hf).2.2 hfin hc.1 (fv4 e hc.2) (fun ad => by rw [ht]; rfl) (fun ad => by rw [ht]; rfl) k
    · cases h
  · cases h
theorem s_iload_n {n : Fin 4} {S S' : AS} {c : Prop} (hd : decode q.cc S.1 = .ok (.iload_n n, 1)) (h : e_iload 1 n.val S = some (c, S')) (hc : c) (k : GA q S' Post) : GA q S Post := by
  unfold e_iload at h
  split at h
  · next e => cases h; exact g_iload_n hd e k
  · cases h
theorem s_iload {n : Nat} {S S' : AS} {c : Prop} (hd : decode q.cc S.1 = .ok (.iload n, 2)) (h : e_iload 2 n S = some (c, S')) (hc : c) (k : GA q S' Post) : GA q S Post := by
  unfold e_iload at h
  split at h
  · next e => cases h; exact g_iload hd e k
  · cases h
theorem s_aload_n {n : Fin 4} {S S' : AS} {c : Prop} (hd : decode q.cc S.1 = .ok (.aload_n n, 1)) (h : e_aload 1 n.val S = some (c, S')) (hc : c) (k : GA q S' Post) : GA q S Post := by
  unfold e_aload at h
  split at h
  · next e => cases h; exact g_aload_n hd e k
  · cases h
theorem s_aload {n : Nat} {S S' : AS} {c : Prop} (hd : decode q.cc S.1 = .ok (.aload n, 2)) (h : e_aload 2 n S = some (c, S')) (hc : c) (k : GA q S' Post) : GA q S Post := by
  unfold e_aload at h
  split at h
  · next e => cases h; exact g_aload hd e k
  · cases h
theorem s_lload_n {n : Fin 4} {S S' : AS} {c : Prop} (hd : decode q.cc S.1 = .ok (.lload_n n, 1)) (h : e_lload 1 n.val S = some (c, S')) (hc : c) (k : GA q S' Post) : GA q S Post := by
  unfold e_lload at h
  split at h
  · next e => cases h; exact g_lload_n hd e k
  · cases h
theorem s_lload {n : Nat} {S S' : AS} {c : Prop} (hd : decode q.cc S.1 = .ok (.lload n, 2)) (h : e_lload 2 n S = some (c, S')) (hc : c) (k : GA q S' Post) : GA q S Post := by
  unfold e_lload at h
  split at h
  · next e => cases h; exact g_lload hd e k
  · cases h
theorem s_istore_n {n : Fin 4} {S S' : AS} {c : Prop} (hd : decode q.cc S.1 = .ok (.istore_n n, 1)) (hn : n.val < q.ml) (h : e_istore 1 n.val S = some (c, S')) (hc : c) (k : GA q S' Post) : GA q S Post := by
  unfold e_istore at h
  split at h
  · cases h; exact g_istore_n hd hn k
  · cases h
theorem s_istore {n : Nat} {S S' : AS} {c : Prop} (hd : decode q.cc S.1 = .ok (.istore n, 2)) (hn : n < q.ml) (h : e_istore 2 n S = some (c, S')) (hc : c) (k : GA q S' Post) : GA q S Post := by
  unfold e_istore at h
  split at h
  · cases h; exact g_istore hd hn k
  · cases h
theorem s_astore_n {n : Fin 4} {S S' : AS} {c : Prop} (hd : decode q.cc S.1 = .ok (.astore_n n, 1)) (hn : n.val < q.ml) (h : e_astore 1 n.val S = some (c, S')) (hc : c) (k : GA q S' Post) : GA q S Post := by
  unfold e_astore at h
  split at h
  · cases h; exact g_astore_n hd hn k
  · cases h
theorem s_astore {n : Nat} {S S' : AS} {c : Prop} (hd : decode q.cc S.1 = .ok (.astore n, 2)) (hn : n < q.ml) (h : e_astore 2 n S = some (c, S')) (hc : c) (k : GA q S' Post) : GA q S Post := by
  unfold e_astore at h
  split at h
  · cases h; exact g_astore hd hn k
  · cases h
theorem s_iinc {n : Nat} {d : Int} {v : Int32} {S S' : AS} {c : Prop} (hd : decode q.cc S.1 = .ok (.iinc n d, 3)) (hv : Int32.ofInt d = v) (hn : n < q.ml) (h : e_iinc n v S = some (c, S')) (hc : c) (k : GA q S' Post) : GA q S Post := by
  unfold e_iinc at h
  split at h
  · next e => cases h; exact g_iinc hd e hv hn k
  · cases h
end EV
