/-! leaves: rows of a sheet -/
def lsub : List (Option Value) → List (Option Value) → Prop
  | [], _ => True
  | _ :: _, [] => False
  | none :: a, _ :: b => lsub a b
  | some v :: a, w :: b => w = some v ∧ lsub a b
theorem lsub_get : ∀ {a b : List (Option Value)}, lsub a b → ∀ (i : Nat) (v : Value), a[i]? = some (some v) → b[i]? = some (some v)
  | [], _, _, i, v, h => by simp at h
  | none :: a, [], hs, _, _, _ => hs.elim
  | some _ :: a, [], hs, _, _, _ => hs.elim
  | none :: a, x :: b, hs, i, v, h => by
    cases i with
    | zero => simp at h
    | succ i => simp at h ⊢; exact lsub_get (a := a) (b := b) hs i v h
  | some y :: a, x :: b, hs, i, v, h => by
    cases i with
    | zero => simp at h ⊢; rw [hs.1, h]
    | succ i => simp at h ⊢; exact lsub_get (a := a) (b := b) hs.2 i v h
/-- fewer locals are said -/
theorem G.sub {q : MI} {pc : Nat} {ls ls' : List (Option Value)} {st : List Value} {M : Mem} {Post : Option Value → Mem → Prop} (k : G q pc ls' st M Post) (h : lsub ls' ls) : G q pc ls st M Post := by
  intro D κ ad p l e s m args below meth c H locs la C hW hS hl
  exact k D κ ad p l e s m args below meth c H locs la C hW hS ⟨hl.1, hl.2.1, fun i v hv => hl.2.2 i v (lsub_get h i v hv)⟩
/-- a method that answers v and leaves the memory -/
abbrev Ret (v : Int32) (M : Mem) : Option Value → Mem → Prop := fun r M' => r = some (.int v) ∧ M' = M
theorem nI_s1 (n : Nat) : nI (n + 1) - nI 1 = nI n := nI_pred n
theorem n0_lit : nI 0 = 0 := nI_0
theorem n1_lit : nI 1 = 1 := by decide +kernel
/-- the sum of the first n terms -/
def psum (f : Nat → Int32) : Nat → Int32
  | 0 => 0
  | n + 1 => psum f n + f n
theorem psum_congr {f g : Nat → Int32} {n : Nat} (h : ∀ j, j < n → f j = g j) : psum f n = psum g n := by
  induction n with
  | zero => rfl
  | succ n ih => rw [psum, psum, ih (fun j hj => h j (by omega)), h n (by omega)]
theorem s_place (M : Mem) (i j : Int32) : Spec mX1_place [.ref 4, .int i, .int j] M (Ret (i * (M 8 3 + nI 1) + j) M) := by
  refine Spec.of (by decide) (by simp [Value.category]) (Nat.le_of_ble_eq_true rfl) ?_
  refine blk 1 [(.iload_n 1, 0, 0, 0), (.aload_n 0, 0, 0, 0), (.getfield 18, 1, 2, 0), (.getfield 50, 4, 3, 0), (.iconst 1, 0, 0, (nI 1)), (.iadd, 0, 0, 0), (.imul, 0, 0, 0), (.iload_n 2, 0, 0, 0), (.iadd, 0, 0, 0)] [] (by decide +kernel) rfl (pc' := 13) (ls' := [some (.ref 4), some (.int i), some (.int j)]) (st' := [.int ((i * ((M 8 3) + (nI 1))) + j)]) (M' := M) rfl ⟨trivial, trivial, rfl, rfl, trivial, trivial, trivial, trivial, trivial, trivial⟩ ?_
  exact g_ireturn (by decide +kernel) rfl rfl ⟨rfl, rfl⟩
/-- is a word in a set? 0 or 1 -/
def hbit (S : Int32) (w : Nat) : Int32 := (S >>> (nI w &&& 31)) &&& nI 1
def hb (S : Int32) (w : Nat) : Int32 := if hbit S w = 0 then 0 else 1
theorem s_holds (M : Mem) (S : Int32) (w : Nat) : Spec mX6_holds [.int S, .int (nI w)] M (Ret (hb S w) M) := by
  refine Spec.of (by decide) (by simp [Value.category]) (Nat.le_of_ble_eq_true rfl) ?_
  refine blk 6 [(.iload_n 0, 0, 0, 0), (.iload_n 1, 0, 0, 0), (.ishr, 0, 0, 0), (.iconst 1, 0, 0, (nI 1)), (.iand, 0, 0, 0)] [] (by decide +kernel) rfl (pc' := 5) (ls' := [some (.int S), some (.int (nI w))]) (st' := [.int ((S >>> ((nI w) &&& 31)) &&& (nI 1))]) (M' := M) rfl ⟨trivial, trivial, trivial, trivial, trivial, trivial⟩ ?_
  refine g_if_eq (off := 7) (tgt := 12) (by decide +kernel) (by decide) (fun c1 => ?_) (fun c1 => ?_)
  · refine blk 6 [(.iconst 0, 0, 0, (nI 0))] [] (by decide +kernel) rfl (pc' := 13) (ls' := [some (.int S), some (.int (nI w))]) (st' := [.int (nI 0)]) (M' := M) rfl ⟨trivial, trivial⟩ ?_
    exact g_ireturn (by decide +kernel) rfl (by decide) ⟨by unfold hb hbit; simp_all [nI_0, n1_lit], rfl⟩
  · refine blk 6 [(.iconst 1, 0, 0, (nI 1)), (.goto (4), 13, 0, 0)] [] (by decide +kernel) rfl (pc' := 13) (ls' := [some (.int S), some (.int (nI w))]) (st' := [.int (nI 1)]) (M' := M) rfl ⟨trivial, trivial, trivial⟩ ?_
    exact g_ireturn (by decide +kernel) rfl (by decide) ⟨by unfold hb hbit; simp_all [nI_0, n1_lit], rfl⟩
def tupF (M : Mem) (t : Nat) (x y : Int32) : Nat → Int32 := fun j => if M (t + 5) j = x ∧ M (t + 5) (j + 1) = y then 1 else 0
theorem l_times {M : Mem} {t w : Nat} {x y : Int32} {Post : Option Value → Mem → Prop} (hk : kd t = 2) (hw : M t 1 = nI w) (hl : w ≤ al (t + 5)) (hp : Post (some (.int (psum (tupF M t x y) (w - 1)))) M) : ∀ d j, d = w - 1 - j → j ≤ w - 1 → G mX2_timesOfTuple 5 [some (.ref t), some (.int x), some (.int y), some (.int (psum (tupF M t x y) j)), some (.int (nI (j + 1)))] [] M Post := by
  have hb := @al_big (t + 5)
  intro d
  induction d using Nat.strongRecOn with
  | ind d ih =>
    intro j hd hj
    refine blk 2 [(.iload 4, 0, 0, 0), (.aload_n 0, 0, 0, 0), (.getfield 15, 2, 1, 0)] [] (by decide +kernel) rfl (pc' := 11) (ls' := [some (.ref t), some (.int x), some (.int y), some (.int (psum (tupF M t x y) j)), some (.int (nI (j + 1)))]) (st' := [.int (M t 1), .int (nI (j + 1))]) (M' := M) rfl ⟨trivial, trivial, (by assumption), trivial⟩ ?_
    refine g_icmp_ge (off := 36) (tgt := 47) (by decide +kernel) (by decide) (fun c1 => ?_) (fun c1 => ?_)
    · have nc1 : w ≤ (j + 1) := (nI_leI (by omega) (by omega)).mp (by simpa only [hw, nI_add, pk_mul, nI_s1, n0_lit] using c1)
      refine blk 2 [(.iload_n 3, 0, 0, 0)] [] (by decide +kernel) rfl (pc' := 48) (ls' := [some (.ref t), some (.int x), some (.int y), some (.int (psum (tupF M t x y) j)), some (.int (nI (j + 1)))]) (st' := [.int (psum (tupF M t x y) j)]) (M' := M) rfl ⟨trivial, trivial⟩ ?_
      have e : j = w - 1 := by omega
      subst e
      exact g_ireturn (by decide +kernel) rfl rfl hp
    · have nc1 : (j + 1) < w := by
        have z : ¬ nI w ≤ nI (j + 1) := by simpa only [hw, nI_add, pk_mul, nI_s1, n0_lit] using c1
        rw [nI_leI (by omega) (by omega)] at z
        omega
      refine blk 2 [(.aload_n 0, 0, 0, 0), (.getfield 9, 2, 0, 0), (.iload 4, 0, 0, 0), (.iconst 1, 0, 0, (nI 1)), (.isub, 0, 0, 0), (.iaload, 0, 0, 0), (.iload_n 1, 0, 0, 0)] [j] (by decide +kernel) rfl (pc' := 24) (ls' := [some (.ref t), some (.int x), some (.int y), some (.int (psum (tupF M t x y) j)), some (.int (nI (j + 1)))]) (st' := [.int x, .int (M (t + 5) j)]) (M' := M) rfl ⟨trivial, (by assumption), trivial, trivial, trivial, ⟨(by simp only [hw, nI_add, pk_mul, nI_s1]), (by omega)⟩, trivial, trivial⟩ ?_
      refine g_icmp_ne (off := 17) (tgt := 41) (by decide +kernel) (by decide) (fun c2 => ?_) (fun c2 => ?_)
      · refine blk 2 [(.iinc 4 1, 0, 0, (nI 1)), (.goto (-39), 5, 0, 0)] [] (by decide +kernel) rfl (pc' := 5) (ls' := [some (.ref t), some (.int x), some (.int y), some (.int (psum (tupF M t x y) j)), some (.int (nI (j + 1) + nI 1))]) (st' := []) (M' := M) rfl ⟨trivial, trivial, trivial⟩ ?_
        have e : psum (tupF M t x y) (j + 1) = psum (tupF M t x y) j := by
          rw [psum, show tupF M t x y j = 0 by simp only [tupF]; simp_all]; exact Int32.add_zero _
        rw [nI_add, ← e]
        exact ih (d - 1) (by omega) (j + 1) (by omega) (by omega)
      · refine blk 2 [(.aload_n 0, 0, 0, 0), (.getfield 9, 2, 0, 0), (.iload 4, 0, 0, 0), (.iaload, 0, 0, 0), (.iload_n 2, 0, 0, 0)] [j + 1] (by decide +kernel) rfl (pc' := 35) (ls' := [some (.ref t), some (.int x), some (.int y), some (.int (psum (tupF M t x y) j)), some (.int (nI (j + 1)))]) (st' := [.int y, .int (M (t + 5) (j + 1))]) (M' := M) rfl ⟨trivial, (by assumption), trivial, ⟨rfl, (by omega)⟩, trivial, trivial⟩ ?_
        refine g_icmp_ne (off := 6) (tgt := 41) (by decide +kernel) (by decide) (fun c3 => ?_) (fun c3 => ?_)
        · refine blk 2 [(.iinc 4 1, 0, 0, (nI 1)), (.goto (-39), 5, 0, 0)] [] (by decide +kernel) rfl (pc' := 5) (ls' := [some (.ref t), some (.int x), some (.int y), some (.int (psum (tupF M t x y) j)), some (.int (nI (j + 1) + nI 1))]) (st' := []) (M' := M) rfl ⟨trivial, trivial, trivial⟩ ?_
          have e : psum (tupF M t x y) (j + 1) = psum (tupF M t x y) j := by
            rw [psum, show tupF M t x y j = 0 by simp only [tupF]; simp_all]; exact Int32.add_zero _
          rw [nI_add, ← e]
          exact ih (d - 1) (by omega) (j + 1) (by omega) (by omega)
        · refine blk 2 [(.iinc 3 1, 0, 0, (nI 1)), (.iinc 4 1, 0, 0, (nI 1)), (.goto (-39), 5, 0, 0)] [] (by decide +kernel) rfl (pc' := 5) (ls' := [some (.ref t), some (.int x), some (.int y), some (.int (psum (tupF M t x y) j + nI 1)), some (.int (nI (j + 1) + nI 1))]) (st' := []) (M' := M) rfl ⟨trivial, trivial, trivial, trivial⟩ ?_
          have e : psum (tupF M t x y) (j + 1) = psum (tupF M t x y) j + nI 1 := by
            rw [psum, show tupF M t x y j = 1 by simp only [tupF]; simp_all]; rfl
          rw [nI_add, ← e]
          exact ih (d - 1) (by omega) (j + 1) (by omega) (by omega)
theorem s_times (M : Mem) {t w : Nat} (x y : Int32) (hk : kd t = 2) (hw : M t 1 = nI w) (hl : w ≤ al (t + 5)) : Spec mX2_timesOfTuple [.ref t, .int x, .int y] M (Ret (psum (tupF M t x y) (w - 1)) M) := by
  refine Spec.of (by decide) (by simp [Value.category]) (Nat.le_of_ble_eq_true rfl) ?_
  refine blk 2 [(.iconst 0, 0, 0, (nI 0)), (.istore_n 3, 0, 0, 0), (.iconst 1, 0, 0, (nI 1)), (.istore 4, 0, 0, 0)] [] (by decide +kernel) rfl (pc' := 5) (ls' := [some (.ref t), some (.int x), some (.int y), some (.int (nI 0)), some (.int (nI 1))]) (st' := []) (M' := M) rfl ⟨trivial, trivial, trivial, trivial, trivial⟩ ?_
  exact l_times hk hw hl ⟨rfl, rfl⟩ _ 0 rfl (by omega)
def sameF (M : Mem) (t u : Nat) : Nat → Int32 := fun j => if M (t + 5) j ≠ -1 ∧ M (t + 5) j = M (u + 5) j then 1 else 0
theorem l_same {M : Mem} {t u w : Nat} {Post : Option Value → Mem → Prop} (hk : kd t = 2) (hk2 : kd u = 2) (hw : M t 1 = nI w) (hl : w ≤ al (t + 5)) (hl2 : w ≤ al (u + 5)) (hp : Post (some (.int (psum (sameF M t u) w))) M) : ∀ d j, d = w - j → j ≤ w → G mX2_sameLettersAs 4 [some (.ref t), some (.ref u), some (.int (psum (sameF M t u) j)), some (.int (nI j))] [] M Post := by
  have hb := @al_big (t + 5)
  intro d
  induction d using Nat.strongRecOn with
  | ind d ih =>
    intro j hd hj
    refine blk 2 [(.iload_n 3, 0, 0, 0), (.aload_n 0, 0, 0, 0), (.getfield 15, 2, 1, 0)] [] (by decide +kernel) rfl (pc' := 9) (ls' := [some (.ref t), some (.ref u), some (.int (psum (sameF M t u) j)), some (.int (nI j))]) (st' := [.int (M t 1), .int (nI j)]) (M' := M) rfl ⟨trivial, trivial, (by assumption), trivial⟩ ?_
    refine g_icmp_ge (off := 37) (tgt := 46) (by decide +kernel) (by decide) (fun c1 => ?_) (fun c1 => ?_)
    · have nc1 : w ≤ j := (nI_leI (by omega) (by omega)).mp (by simpa only [hw, nI_add, pk_mul, nI_s1, n0_lit] using c1)
      refine blk 2 [(.iload_n 2, 0, 0, 0)] [] (by decide +kernel) rfl (pc' := 47) (ls' := [some (.ref t), some (.ref u), some (.int (psum (sameF M t u) j)), some (.int (nI j))]) (st' := [.int (psum (sameF M t u) j)]) (M' := M) rfl ⟨trivial, trivial⟩ ?_
      have e : j = w := by omega
      subst e
      exact g_ireturn (by decide +kernel) rfl rfl hp
    · have nc1 : j < w := by
        have z : ¬ nI w ≤ nI j := by simpa only [hw, nI_add, pk_mul, nI_s1, n0_lit] using c1
        rw [nI_leI (by omega) (by omega)] at z
        omega
      refine blk 2 [(.aload_n 0, 0, 0, 0), (.getfield 9, 2, 0, 0), (.iload_n 3, 0, 0, 0), (.iaload, 0, 0, 0), (.iconst (-1), 0, 0, (-1))] [j] (by decide +kernel) rfl (pc' := 19) (ls' := [some (.ref t), some (.ref u), some (.int (psum (sameF M t u) j)), some (.int (nI j))]) (st' := [.int (-1), .int (M (t + 5) j)]) (M' := M) rfl ⟨trivial, (by assumption), trivial, ⟨rfl, (by omega)⟩, trivial, trivial⟩ ?_
      refine g_icmp_eq (off := 21) (tgt := 40) (by decide +kernel) (by decide) (fun c2 => ?_) (fun c2 => ?_)
      · refine blk 2 [(.iinc 3 1, 0, 0, (nI 1)), (.goto (-39), 4, 0, 0)] [] (by decide +kernel) rfl (pc' := 4) (ls' := [some (.ref t), some (.ref u), some (.int (psum (sameF M t u) j)), some (.int (nI j + nI 1))]) (st' := []) (M' := M) rfl ⟨trivial, trivial, trivial⟩ ?_
        have e : psum (sameF M t u) (j + 1) = psum (sameF M t u) j := by
          rw [psum, show sameF M t u j = 0 by simp only [sameF]; simp_all]; exact Int32.add_zero _
        rw [nI_add, ← e]
        exact ih (d - 1) (by omega) (j + 1) (by omega) (by omega)
      · refine blk 2 [(.aload_n 0, 0, 0, 0), (.getfield 9, 2, 0, 0), (.iload_n 3, 0, 0, 0), (.iaload, 0, 0, 0), (.aload_n 1, 0, 0, 0), (.getfield 9, 2, 0, 0), (.iload_n 3, 0, 0, 0), (.iaload, 0, 0, 0)] [j, j] (by decide +kernel) rfl (pc' := 34) (ls' := [some (.ref t), some (.ref u), some (.int (psum (sameF M t u) j)), some (.int (nI j))]) (st' := [.int (M (u + 5) j), .int (M (t + 5) j)]) (M' := M) rfl ⟨trivial, (by assumption), trivial, ⟨rfl, (by omega)⟩, trivial, (by assumption), trivial, ⟨rfl, (by omega)⟩, trivial⟩ ?_
        refine g_icmp_ne (off := 6) (tgt := 40) (by decide +kernel) (by decide) (fun c3 => ?_) (fun c3 => ?_)
        · refine blk 2 [(.iinc 3 1, 0, 0, (nI 1)), (.goto (-39), 4, 0, 0)] [] (by decide +kernel) rfl (pc' := 4) (ls' := [some (.ref t), some (.ref u), some (.int (psum (sameF M t u) j)), some (.int (nI j + nI 1))]) (st' := []) (M' := M) rfl ⟨trivial, trivial, trivial⟩ ?_
          have e : psum (sameF M t u) (j + 1) = psum (sameF M t u) j := by
            rw [psum, show sameF M t u j = 0 by simp only [sameF]; simp_all]; exact Int32.add_zero _
          rw [nI_add, ← e]
          exact ih (d - 1) (by omega) (j + 1) (by omega) (by omega)
        · refine blk 2 [(.iinc 2 1, 0, 0, (nI 1)), (.iinc 3 1, 0, 0, (nI 1)), (.goto (-39), 4, 0, 0)] [] (by decide +kernel) rfl (pc' := 4) (ls' := [some (.ref t), some (.ref u), some (.int (psum (sameF M t u) j + nI 1)), some (.int (nI j + nI 1))]) (st' := []) (M' := M) rfl ⟨trivial, trivial, trivial, trivial⟩ ?_
          have e : psum (sameF M t u) (j + 1) = psum (sameF M t u) j + nI 1 := by
            rw [psum, show sameF M t u j = 1 by simp only [sameF]; simp_all]; rfl
          rw [nI_add, ← e]
          exact ih (d - 1) (by omega) (j + 1) (by omega) (by omega)
theorem s_same (M : Mem) {t u w : Nat} (hk : kd t = 2) (hk2 : kd u = 2) (hw : M t 1 = nI w) (hl : w ≤ al (t + 5)) (hl2 : w ≤ al (u + 5)) : Spec mX2_sameLettersAs [.ref t, .ref u] M (Ret (psum (sameF M t u) w) M) := by
  refine Spec.of (by decide) (by simp [Value.category]) (Nat.le_of_ble_eq_true rfl) ?_
  refine blk 2 [(.iconst 0, 0, 0, (nI 0)), (.istore_n 2, 0, 0, 0), (.iconst 0, 0, 0, (nI 0)), (.istore_n 3, 0, 0, 0)] [] (by decide +kernel) rfl (pc' := 4) (ls' := [some (.ref t), some (.ref u), some (.int (nI 0)), some (.int (nI 0))]) (st' := []) (M' := M) rfl ⟨trivial, trivial, trivial, trivial, trivial⟩ ?_
  exact l_same hk hk2 hw hl hl2 ⟨rfl, rfl⟩ _ 0 rfl (by omega)
