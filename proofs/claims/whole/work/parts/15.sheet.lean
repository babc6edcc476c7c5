/-! sheets: reading -/
def anyB (p : Nat → Bool) : Nat → Bool
  | 0 => false
  | n + 1 => anyB p n || p n
def allB (p : Nat → Bool) : Nat → Bool
  | 0 => true
  | n + 1 => allB p n && p n
theorem anyB_of {p : Nat → Bool} {n i : Nat} (hi : i < n) (h : p i = true) : anyB p n = true := by
  induction n with
  | zero => omega
  | succ n ih =>
    rw [anyB, Bool.or_eq_true]
    by_cases e : i = n
    · subst e; exact Or.inr h
    · exact Or.inl (ih (by omega))
theorem anyB_iff {p : Nat → Bool} {n : Nat} : anyB p n = true ↔ ∃ i, i < n ∧ p i = true := by
  constructor
  · induction n with
    | zero => intro h; cases h
    | succ n ih =>
      intro h
      rw [anyB, Bool.or_eq_true] at h
      rcases h with h | h
      · obtain ⟨i, h1, h2⟩ := ih h; exact ⟨i, by omega, h2⟩
      · exact ⟨n, by omega, h⟩
  · rintro ⟨i, h1, h2⟩; exact anyB_of h1 h2
theorem allB_iff {p : Nat → Bool} {n : Nat} : allB p n = true ↔ ∀ i, i < n → p i = true := by
  induction n with
  | zero => exact ⟨fun _ i h => by omega, fun _ => rfl⟩
  | succ n ih =>
    rw [allB, Bool.and_eq_true, ih]
    exact ⟨fun h i hi => by
      by_cases e : i = n
      · subst e; exact h.2
      · exact h.1 i (by omega), fun h => ⟨fun i hi => h i (by omega), h n (by omega)⟩⟩
theorem allB_not {p : Nat → Bool} {n i : Nat} (hi : i < n) (h : p i = false) : allB p n = false := by
  cases e : allB p n with
  | false => rfl
  | true => rw [allB_iff.mp e i hi] at h; cases h
/-- true as an int -/
def bI (b : Bool) : Int32 := if b then 1 else 0
theorem hb_01 (S : Int32) (w : Nat) : hb S w = 0 ∨ hb S w = 1 := by unfold hb; split <;> simp
theorem al56 {i : Nat} (h : i < 5) : al (51 + i + 5) = 60 := (by decide : ∀ i, i < 5 → al (51 + i + 5) = 60) i h
theorem al66 {i : Nat} (h : i < 5) : al (61 + i + 5) = 60 := (by decide : ∀ i, i < 5 → al (61 + i + 5) = 60) i h
theorem al46 {i : Nat} (h : i < 5) : al (41 + i + 5) = 12 := (by decide : ∀ i, i < 5 → al (41 + i + 5) = 12) i h
theorem kd51 {i : Nat} (h : i < 5) : kd (51 + i) = 2 := (by decide : ∀ i, i < 5 → kd (51 + i) = 2) i h
theorem kd61 {i : Nat} (h : i < 5) : kd (61 + i) = 2 := (by decide : ∀ i, i < 5 → kd (61 + i) = 2) i h
theorem kd41 {i : Nat} (h : i < 5) : kd (41 + i) = 2 := (by decide : ∀ i, i < 5 → kd (41 + i) = 2) i h
theorem kd56 {i : Nat} (h : i < 5) : kd (51 + i + 5) = 8 := (by decide : ∀ i, i < 5 → kd (51 + i + 5) = 8) i h
theorem kd66 {i : Nat} (h : i < 5) : kd (61 + i + 5) = 8 := (by decide : ∀ i, i < 5 → kd (61 + i + 5) = 8) i h
theorem kd46 {i : Nat} (h : i < 5) : kd (41 + i + 5) = 8 := (by decide : ∀ i, i < 5 → kd (41 + i + 5) = 8) i h
/-- the two sheets: a sheet's tag and its first row's -/
def shp (σ B : Nat) : Prop := (σ = 35 ∧ B = 51) ∨ (σ = 37 ∧ B = 61)
def hasF (M : Mem) (B : Nat) (S : Int32) (k : Nat) : Nat → Bool := fun i => decide (hb S i ≠ 0 ∧ M (B + i + 5) k ≠ -1)
def cntF (M : Mem) (B k x : Nat) : Nat → Int32 := fun i => if M (B + i + 5) k = nI x then 1 else 0
def pmax (f : Nat → Int32) : Nat → Int32
  | 0 => 0
  | n + 1 => if pmax f n < f n then f n else pmax f n
def aspF (M : Mem) (B k i : Nat) : Nat → Bool := fun j => decide (M (B + i + 5) k ≠ -1 ∧ M (B + j + 5) k ≠ -1 ∧ 0 < M 3 (cd (M (B + i + 5) k) * 4 + cd (M (B + j + 5) k)))
def sopF (M : Mem) (B w i : Nat) : Nat → Int32 := fun j => M 24 i * M 24 (i + 1 + j) * (sbF (M 3) (M 2 1) (M 2 2) (M (B + i + 5)) (M (B + (i + 1 + j) + 5)) w).1
theorem l_has35 {M : Mem} {S : Int32} {k : Nat} (hk : k < 60) : ∀ d i, d = 5 - i → i ≤ 5 → anyB (hasF M 51 S k) i = false → G mX3_hasLetter 2 [some (.ref 35), some (.int (nI k)), some (.int S), some (.int (nI i))] [] M (Ret (bI (anyB (hasF M 51 S k) 5)) M) := by
  intro d
  induction d using Nat.strongRecOn with
  | ind d ih =>
    intro i hd hj ha
    refine blk 3 [(.iload_n 3, 0, 0, 0), (.iconst 5, 0, 0, (nI 5))] [] (by decide +kernel) rfl (pc' := 4) (ls' := [some (.ref 35), some (.int (nI k)), some (.int S), some (.int (nI i))]) (st' := [.int (nI 5), .int (nI i)]) (M' := M) rfl ⟨trivial, trivial, trivial⟩ ?_
    refine g_icmp_ge (off := 34) (tgt := 38) (by decide +kernel) (by decide) (fun c1 => ?_) (fun c1 => ?_)
    · have nc1 : 5 ≤ i := (nI_leI (by omega) (by omega)).mp (by simpa only [nI_add, pk_mul, nI_s1, n0_lit] using c1)
      refine blk 3 [(.iconst 0, 0, 0, (nI 0))] [] (by decide +kernel) rfl (pc' := 39) (ls' := [some (.ref 35), some (.int (nI k)), some (.int S), some (.int (nI i))]) (st' := [.int (nI 0)]) (M' := M) rfl ⟨trivial, trivial⟩ ?_
      have e : i = 5 := by omega
      subst e
      refine g_ireturn (by decide +kernel) rfl (by decide) ⟨?_, rfl⟩
      rw [ha]; rfl
    · have nc1 : i < 5 := by
        have z : ¬ nI 5 ≤ nI i := by simpa only [nI_add, pk_mul, nI_s1, n0_lit] using c1
        rw [nI_leI (by omega) (by omega)] at z
        omega
      refine blk 3 [(.iload_n 2, 0, 0, 0), (.iload_n 3, 0, 0, 0)] [] (by decide +kernel) rfl (pc' := 9) (ls' := [some (.ref 35), some (.int (nI k)), some (.int S), some (.int (nI i))]) (st' := [.int (nI i), .int S]) (M' := M) rfl ⟨trivial, trivial, trivial⟩ ?_
      refine g_callN (index := 28) (s_holds _ S i) rfl (by decide) ⟨ok_X6_holds.1, ok_X6_holds.2.1, ok_X6_holds.2.2.1, ok_X6_holds.2.2.2, by decide +kernel, by decide +kernel⟩ (by decide +kernel) rfl (Nat.le_of_ble_eq_true rfl) (fun r M' h => ?_) rfl
      obtain ⟨hr, hM⟩ := h
      rw [hr, hM]
      show G _ 12 [some (.ref 35), some (.int (nI k)), some (.int S), some (.int (nI i))] [.int (hb S i)] M _
      refine g_if_eq (off := 20) (tgt := 32) (by decide +kernel) (by decide) (fun c2 => ?_) (fun c2 => ?_)
      · refine blk 3 [(.iinc 3 1, 0, 0, (nI 1)), (.goto (-33), 2, 0, 0)] [] (by decide +kernel) rfl (pc' := 2) (ls' := [some (.ref 35), some (.int (nI k)), some (.int S), some (.int (nI i + nI 1))]) (st' := []) (M' := M) rfl ⟨trivial, trivial, trivial⟩ ?_
        refine G.sub (ls' := [some (.ref 35), some (.int (nI k)), some (.int S), some (.int (nI (i + 1)))]) ?_ ⟨rfl, rfl, rfl, congrArg (fun z => some (Value.int z)) (nI_add _ _), trivial⟩
        exact ih (d - 1) (by omega) (i + 1) (by omega) (by omega) (by rw [anyB, ha, Bool.false_or]; simp only [hasF, decide_eq_false_iff_not]; simp_all)
      · refine blk 3 [(.aload_n 0, 0, 0, 0), (.getfield 11, 3, 0, 0), (.iload_n 3, 0, 0, 0), (.aaload, 0, 0, 0), (.getfield 31, 2, 0, 0), (.iload_n 1, 0, 0, 0), (.iaload, 0, 0, 0), (.iconst (-1), 0, 0, (-1))] [i, k] (by decide +kernel) rfl (pc' := 27) (ls' := [some (.ref 35), some (.int (nI k)), some (.int S), some (.int (nI i))]) (st' := [.int (-1), .int (M (51 + i + 5) k)]) (M' := M) rfl ⟨trivial, rfl, trivial, ⟨rfl, (by show _ < 5; omega)⟩, (kd51 (by omega)), trivial, ⟨rfl, (Nat.lt_of_lt_of_eq (by omega : k < 60) (al56 (i := i) (by omega)).symm)⟩, trivial, trivial⟩ ?_
        refine g_icmp_eq (off := 5) (tgt := 32) (by decide +kernel) (by decide) (fun c3 => ?_) (fun c3 => ?_)
        · refine blk 3 [(.iinc 3 1, 0, 0, (nI 1)), (.goto (-33), 2, 0, 0)] [] (by decide +kernel) rfl (pc' := 2) (ls' := [some (.ref 35), some (.int (nI k)), some (.int S), some (.int (nI i + nI 1))]) (st' := []) (M' := M) rfl ⟨trivial, trivial, trivial⟩ ?_
          refine G.sub (ls' := [some (.ref 35), some (.int (nI k)), some (.int S), some (.int (nI (i + 1)))]) ?_ ⟨rfl, rfl, rfl, congrArg (fun z => some (Value.int z)) (nI_add _ _), trivial⟩
          exact ih (d - 1) (by omega) (i + 1) (by omega) (by omega) (by rw [anyB, ha, Bool.false_or]; simp only [hasF, decide_eq_false_iff_not]; simp_all)
        · refine blk 3 [(.iconst 1, 0, 0, (nI 1))] [] (by decide +kernel) rfl (pc' := 31) (ls' := [some (.ref 35), some (.int (nI k)), some (.int S), some (.int (nI i))]) (st' := [.int (nI 1)]) (M' := M) rfl ⟨trivial, trivial⟩ ?_
          refine g_ireturn (by decide +kernel) rfl (by decide) ⟨?_, rfl⟩
          rw [show anyB (hasF M 51 S k) 5 = true from anyB_of (i := i) (by omega) (by simp only [hasF, decide_eq_true_eq]; exact ⟨c2, c3⟩)]; rfl
theorem s_has35 (M : Mem) (S : Int32) {k : Nat} (hk : k < 60) : Spec mX3_hasLetter [.ref 35, .int (nI k), .int S] M (Ret (bI (anyB (hasF M 51 S k) 5)) M) := by
  refine Spec.of (by decide) (by simp [Value.category]) (Nat.le_of_ble_eq_true rfl) ?_
  refine blk 3 [(.iconst 0, 0, 0, (nI 0)), (.istore_n 3, 0, 0, 0)] [] (by decide +kernel) rfl (pc' := 2) (ls' := [some (.ref 35), some (.int (nI k)), some (.int S), some (.int (nI 0))]) (st' := []) (M' := M) rfl ⟨trivial, trivial, trivial⟩ ?_
  exact l_has35 hk _ 0 rfl (by omega) rfl
theorem l_most235 {M : Mem} {k n x : Nat} {A : Int32} {Post : Option Value → Mem → Prop} (hk : k < 60) (hn : n ≤ 5) (hx : x < 4) (hp : G mX3_mostOfOneLetter 5 [some (.ref 35), some (.int (nI k)), some (.int (nI n)), some (.int (if A < psum (cntF M 51 k x) n then psum (cntF M 51 k x) n else A)), some (.int (nI (x + 1))), none, none] [] M Post) : ∀ d i, d = n - i → i ≤ n → G mX3_mostOfOneLetter 17 [some (.ref 35), some (.int (nI k)), some (.int (nI n)), some (.int A), some (.int (nI x)), some (.int (psum (cntF M 51 k x) i)), some (.int (nI i))] [] M Post := by
  intro d
  induction d using Nat.strongRecOn with
  | ind d ih =>
    intro i hd hj
    refine blk 3 [(.iload 6, 0, 0, 0), (.iload_n 2, 0, 0, 0)] [] (by decide +kernel) rfl (pc' := 20) (ls' := [some (.ref 35), some (.int (nI k)), some (.int (nI n)), some (.int A), some (.int (nI x)), some (.int (psum (cntF M 51 k x) i)), some (.int (nI i))]) (st' := [.int (nI n), .int (nI i)]) (M' := M) rfl ⟨trivial, trivial, trivial⟩ ?_
    refine g_icmp_ge (off := 29) (tgt := 49) (by decide +kernel) (by decide) (fun c1 => ?_) (fun c1 => ?_)
    · have nc1 : n ≤ i := (nI_leI (by omega) (by omega)).mp (by simpa only [nI_add, pk_mul, nI_s1, n0_lit] using c1)
      refine blk 3 [(.iload_n 3, 0, 0, 0), (.iload 5, 0, 0, 0)] [] (by decide +kernel) rfl (pc' := 52) (ls' := [some (.ref 35), some (.int (nI k)), some (.int (nI n)), some (.int A), some (.int (nI x)), some (.int (psum (cntF M 51 k x) i)), some (.int (nI i))]) (st' := [.int (psum (cntF M 51 k x) i), .int A]) (M' := M) rfl ⟨trivial, trivial, trivial⟩ ?_
      refine g_mmax (index := 39) (TB_in (by decide +kernel) (by decide +kernel)) (TB_in (by decide +kernel) (by decide +kernel)) (TB_in (by decide +kernel) (by decide +kernel)) (TB_in (by decide +kernel) (by decide +kernel)) (by decide) (Nat.le_of_ble_eq_true rfl) (by decide +kernel) ?_
      refine blk 3 [(.istore_n 3, 0, 0, 0), (.iinc 4 1, 0, 0, (nI 1)), (.goto (-54), 5, 0, 0)] [] (by decide +kernel) rfl (pc' := 5) (ls' := [some (.ref 35), some (.int (nI k)), some (.int (nI n)), some (.int (if A < (psum (cntF M 51 k x) i) then psum (cntF M 51 k x) i else A)), some (.int (nI x + nI 1)), some (.int (psum (cntF M 51 k x) i)), some (.int (nI i))]) (st' := []) (M' := M) rfl ⟨trivial, trivial, trivial, trivial⟩ ?_
      have e : i = n := by omega
      subst e
      refine G.sub (ls' := [some (.ref 35), some (.int (nI k)), some (.int (nI i)), some (.int (if A < psum (cntF M 51 k x) i then psum (cntF M 51 k x) i else A)), some (.int (nI (x + 1))), none, none]) ?_ ⟨rfl, rfl, congrArg (fun z => some (Value.int z)) rfl, congrArg (fun z => some (Value.int z)) rfl, congrArg (fun z => some (Value.int z)) (by simp only [nI_add, nI_s1]), trivial⟩
      exact hp
    · have nc1 : i < n := by
        have z : ¬ nI n ≤ nI i := by simpa only [nI_add, pk_mul, nI_s1, n0_lit] using c1
        rw [nI_leI (by omega) (by omega)] at z
        omega
      refine blk 3 [(.aload_n 0, 0, 0, 0), (.getfield 11, 3, 0, 0), (.iload 6, 0, 0, 0), (.aaload, 0, 0, 0), (.getfield 31, 2, 0, 0), (.iload_n 1, 0, 0, 0), (.iaload, 0, 0, 0), (.iload 4, 0, 0, 0)] [i, k] (by decide +kernel) rfl (pc' := 37) (ls' := [some (.ref 35), some (.int (nI k)), some (.int (nI n)), some (.int A), some (.int (nI x)), some (.int (psum (cntF M 51 k x) i)), some (.int (nI i))]) (st' := [.int (nI x), .int (M (51 + i + 5) k)]) (M' := M) rfl ⟨trivial, rfl, trivial, ⟨rfl, (by show _ < 5; omega)⟩, (kd51 (by omega)), trivial, ⟨rfl, (Nat.lt_of_lt_of_eq (by omega : k < 60) (al56 (i := i) (by omega)).symm)⟩, trivial, trivial⟩ ?_
      refine g_icmp_ne (off := 6) (tgt := 43) (by decide +kernel) (by decide) (fun c2 => ?_) (fun c2 => ?_)
      · refine blk 3 [(.iinc 6 1, 0, 0, (nI 1)), (.goto (-29), 17, 0, 0)] [] (by decide +kernel) rfl (pc' := 17) (ls' := [some (.ref 35), some (.int (nI k)), some (.int (nI n)), some (.int A), some (.int (nI x)), some (.int (psum (cntF M 51 k x) i)), some (.int (nI i + nI 1))]) (st' := []) (M' := M) rfl ⟨trivial, trivial, trivial⟩ ?_
        have e : psum (cntF M 51 k x) (i + 1) = psum (cntF M 51 k x) i := by
          rw [psum, show cntF M 51 k x i = 0 by simp only [cntF]; simp_all]; exact Int32.add_zero _
        refine G.sub (ls' := [some (.ref 35), some (.int (nI k)), some (.int (nI n)), some (.int A), some (.int (nI x)), some (.int (psum (cntF M 51 k x) (i + 1))), some (.int (nI (i + 1)))]) ?_ ⟨rfl, rfl, rfl, rfl, rfl, congrArg (fun z => some (Value.int z)) e.symm, congrArg (fun z => some (Value.int z)) (by simp only [nI_add, nI_s1]), trivial⟩
        exact ih (d - 1) (by omega) (i + 1) (by omega) (by omega)
      · refine blk 3 [(.iinc 5 1, 0, 0, (nI 1)), (.iinc 6 1, 0, 0, (nI 1)), (.goto (-29), 17, 0, 0)] [] (by decide +kernel) rfl (pc' := 17) (ls' := [some (.ref 35), some (.int (nI k)), some (.int (nI n)), some (.int A), some (.int (nI x)), some (.int (psum (cntF M 51 k x) i + nI 1)), some (.int (nI i + nI 1))]) (st' := []) (M' := M) rfl ⟨trivial, trivial, trivial, trivial⟩ ?_
        have e : psum (cntF M 51 k x) (i + 1) = psum (cntF M 51 k x) i + nI 1 := by
          rw [psum, show cntF M 51 k x i = 1 by simp only [cntF]; simp_all]; rfl
        refine G.sub (ls' := [some (.ref 35), some (.int (nI k)), some (.int (nI n)), some (.int A), some (.int (nI x)), some (.int (psum (cntF M 51 k x) (i + 1))), some (.int (nI (i + 1)))]) ?_ ⟨rfl, rfl, rfl, rfl, rfl, congrArg (fun z => some (Value.int z)) e.symm, congrArg (fun z => some (Value.int z)) (by simp only [nI_add, nI_s1]), trivial⟩
        exact ih (d - 1) (by omega) (i + 1) (by omega) (by omega)
theorem l_most35 {M : Mem} {k n : Nat} (hk : k < 60) (hn : n ≤ 5) : ∀ d x, d = 4 - x → x ≤ 4 → G mX3_mostOfOneLetter 5 [some (.ref 35), some (.int (nI k)), some (.int (nI n)), some (.int (pmax (fun x => psum (cntF M 51 k x) n) x)), some (.int (nI x)), none, none] [] M (Ret (pmax (fun x => psum (cntF M 51 k x) n) 4) M) := by
  intro d
  induction d using Nat.strongRecOn with
  | ind d ih =>
    intro x hd hj
    refine blk 3 [(.iload 4, 0, 0, 0), (.iconst 4, 0, 0, (nI 4))] [] (by decide +kernel) rfl (pc' := 8) (ls' := [some (.ref 35), some (.int (nI k)), some (.int (nI n)), some (.int (pmax (fun x => psum (cntF M 51 k x) n) x)), some (.int (nI x)), none, none]) (st' := [.int (nI 4), .int (nI x)]) (M' := M) rfl ⟨trivial, trivial, trivial⟩ ?_
    refine g_icmp_ge (off := 54) (tgt := 62) (by decide +kernel) (by decide) (fun c1 => ?_) (fun c1 => ?_)
    · have nc1 : 4 ≤ x := (nI_leI (by omega) (by omega)).mp (by simpa only [nI_add, pk_mul, nI_s1, n0_lit] using c1)
      refine blk 3 [(.iload_n 3, 0, 0, 0)] [] (by decide +kernel) rfl (pc' := 63) (ls' := [some (.ref 35), some (.int (nI k)), some (.int (nI n)), some (.int (pmax (fun x => psum (cntF M 51 k x) n) x)), some (.int (nI x)), none, none]) (st' := [.int (pmax (fun x => psum (cntF M 51 k x) n) x)]) (M' := M) rfl ⟨trivial, trivial⟩ ?_
      have e : x = 4 := by omega
      subst e
      exact g_ireturn (by decide +kernel) rfl rfl ⟨rfl, rfl⟩
    · have nc1 : x < 4 := by
        have z : ¬ nI 4 ≤ nI x := by simpa only [nI_add, pk_mul, nI_s1, n0_lit] using c1
        rw [nI_leI (by omega) (by omega)] at z
        omega
      refine blk 3 [(.iconst 0, 0, 0, (nI 0)), (.istore 5, 0, 0, 0), (.iconst 0, 0, 0, (nI 0)), (.istore 6, 0, 0, 0)] [] (by decide +kernel) rfl (pc' := 17) (ls' := [some (.ref 35), some (.int (nI k)), some (.int (nI n)), some (.int (pmax (fun x => psum (cntF M 51 k x) n) x)), some (.int (nI x)), some (.int (nI 0)), some (.int (nI 0))]) (st' := []) (M' := M) rfl ⟨trivial, trivial, trivial, trivial, trivial⟩ ?_
      exact l_most235 hk hn (by omega) (ih (d - 1) (by omega) (x + 1) (by omega) (by omega)) _ 0 rfl (by omega)
theorem s_most35 (M : Mem) {k n : Nat} (hk : k < 60) (hn : n ≤ 5) : Spec mX3_mostOfOneLetter [.ref 35, .int (nI k), .int (nI n)] M (Ret (pmax (fun x => psum (cntF M 51 k x) n) 4) M) := by
  refine Spec.of (by decide) (by simp [Value.category]) (Nat.le_of_ble_eq_true rfl) ?_
  refine blk 3 [(.iconst 0, 0, 0, (nI 0)), (.istore_n 3, 0, 0, 0), (.iconst 0, 0, 0, (nI 0)), (.istore 4, 0, 0, 0)] [] (by decide +kernel) rfl (pc' := 5) (ls' := [some (.ref 35), some (.int (nI k)), some (.int (nI n)), some (.int (nI 0)), some (.int (nI 0)), none, none]) (st' := []) (M' := M) rfl ⟨trivial, trivial, trivial, trivial, trivial⟩ ?_
  exact l_most35 hk hn _ 0 rfl (by omega)
theorem l_asp235 {M : Mem} {k n i : Nat} {Post : Option Value → Mem → Prop} (hk : k < 60) (hn : n ≤ 5) (hi : i < n) (hc : ∀ a b, a < n → b < k + 1 → okc (M (51 + a + 5) b)) (hp : allB (aspF M 51 k i) i = true → G mX3_allScoresPositive 3 [some (.ref 35), some (.int (nI k)), some (.int (nI n)), some (.ref 2), some (.int (nI (i + 1))), none, none, none] [] M Post) (hf : allB (aspF M 51 k i) i = false → Post (some (.int (nI 0))) M) : ∀ d j, d = i - j → j ≤ i → allB (aspF M 51 k i) j = true → G mX3_allScoresPositive 12 [some (.ref 35), some (.int (nI k)), some (.int (nI n)), some (.ref 2), some (.int (nI i)), some (.int (nI j)), none, none] [] M Post := by
  intro d
  induction d using Nat.strongRecOn with
  | ind d ih =>
    intro j hd hj ha
    refine blk 3 [(.iload 5, 0, 0, 0), (.iload 4, 0, 0, 0)] [] (by decide +kernel) rfl (pc' := 16) (ls' := [some (.ref 35), some (.int (nI k)), some (.int (nI n)), some (.ref 2), some (.int (nI i)), some (.int (nI j)), none, none]) (st' := [.int (nI i), .int (nI j)]) (M' := M) rfl ⟨trivial, trivial, trivial⟩ ?_
    refine g_icmp_ge (off := 66) (tgt := 82) (by decide +kernel) (by decide) (fun c1 => ?_) (fun c1 => ?_)
    · have nc1 : i ≤ j := (nI_leI (by omega) (by omega)).mp (by simpa only [nI_add, pk_mul, nI_s1, n0_lit] using c1)
      refine blk 3 [(.iinc 4 1, 0, 0, (nI 1)), (.goto (-82), 3, 0, 0)] [] (by decide +kernel) rfl (pc' := 3) (ls' := [some (.ref 35), some (.int (nI k)), some (.int (nI n)), some (.ref 2), some (.int (nI i + nI 1)), some (.int (nI j)), none, none]) (st' := []) (M' := M) rfl ⟨trivial, trivial, trivial⟩ ?_
      have e : j = i := by omega
      subst e
      refine G.sub (ls' := [some (.ref 35), some (.int (nI k)), some (.int (nI n)), some (.ref 2), some (.int (nI (j + 1))), none, none, none]) ?_ ⟨rfl, rfl, rfl, rfl, congrArg (fun z => some (Value.int z)) (nI_add _ _), trivial⟩
      exact hp ha
    · have nc1 : j < i := by
        have z : ¬ nI i ≤ nI j := by simpa only [nI_add, pk_mul, nI_s1, n0_lit] using c1
        rw [nI_leI (by omega) (by omega)] at z
        omega
      refine blk 3 [(.aload_n 0, 0, 0, 0), (.getfield 11, 3, 0, 0), (.iload 4, 0, 0, 0), (.aaload, 0, 0, 0), (.getfield 31, 2, 0, 0), (.iload_n 1, 0, 0, 0), (.iaload, 0, 0, 0), (.istore 6, 0, 0, 0), (.aload_n 0, 0, 0, 0), (.getfield 11, 3, 0, 0), (.iload 5, 0, 0, 0), (.aaload, 0, 0, 0), (.getfield 31, 2, 0, 0), (.iload_n 1, 0, 0, 0), (.iaload, 0, 0, 0), (.istore 7, 0, 0, 0), (.iload 6, 0, 0, 0), (.iconst (-1), 0, 0, (-1))] [i, k, j, k] (by decide +kernel) rfl (pc' := 50) (ls' := [some (.ref 35), some (.int (nI k)), some (.int (nI n)), some (.ref 2), some (.int (nI i)), some (.int (nI j)), some (.int (M (51 + i + 5) k)), some (.int (M (51 + j + 5) k))]) (st' := [.int (-1), .int (M (51 + i + 5) k)]) (M' := M) rfl ⟨trivial, rfl, trivial, ⟨rfl, (by show _ < 5; omega)⟩, (kd51 (by omega)), trivial, ⟨rfl, (Nat.lt_of_lt_of_eq (by omega : k < 60) (al56 (i := i) (by omega)).symm)⟩, trivial, trivial, rfl, trivial, ⟨rfl, (by show _ < 5; omega)⟩, (kd51 (by omega)), trivial, ⟨rfl, (Nat.lt_of_lt_of_eq (by omega : k < 60) (al56 (i := j) (by omega)).symm)⟩, trivial, trivial, trivial, trivial⟩ ?_
      refine g_icmp_eq (off := 24) (tgt := 74) (by decide +kernel) (by decide) (fun c2 => ?_) (fun c2 => ?_)
      · refine blk 3 [(.iconst 0, 0, 0, (nI 0))] [] (by decide +kernel) rfl (pc' := 75) (ls' := [some (.ref 35), some (.int (nI k)), some (.int (nI n)), some (.ref 2), some (.int (nI i)), some (.int (nI j)), some (.int (M (51 + i + 5) k)), some (.int (M (51 + j + 5) k))]) (st' := [.int (nI 0)]) (M' := M) rfl ⟨trivial, trivial⟩ ?_
        refine g_ireturn (by decide +kernel) rfl (by decide) (hf ?_)
        refine allB_not (i := j) (by omega) ?_
        simp only [aspF, decide_eq_false_iff_not]; exact fun z => z.1 c2
      · refine blk 3 [(.iload 7, 0, 0, 0), (.iconst (-1), 0, 0, (-1))] [] (by decide +kernel) rfl (pc' := 56) (ls' := [some (.ref 35), some (.int (nI k)), some (.int (nI n)), some (.ref 2), some (.int (nI i)), some (.int (nI j)), some (.int (M (51 + i + 5) k)), some (.int (M (51 + j + 5) k))]) (st' := [.int (-1), .int (M (51 + j + 5) k)]) (M' := M) rfl ⟨trivial, trivial, trivial⟩ ?_
        refine g_icmp_eq (off := 18) (tgt := 74) (by decide +kernel) (by decide) (fun c3 => ?_) (fun c3 => ?_)
        · refine blk 3 [(.iconst 0, 0, 0, (nI 0))] [] (by decide +kernel) rfl (pc' := 75) (ls' := [some (.ref 35), some (.int (nI k)), some (.int (nI n)), some (.ref 2), some (.int (nI i)), some (.int (nI j)), some (.int (M (51 + i + 5) k)), some (.int (M (51 + j + 5) k))]) (st' := [.int (nI 0)]) (M' := M) rfl ⟨trivial, trivial⟩ ?_
          refine g_ireturn (by decide +kernel) rfl (by decide) (hf ?_)
          refine allB_not (i := j) (by omega) ?_
          simp only [aspF, decide_eq_false_iff_not]; exact fun z => z.2.1 c3
        · have ex := okc_cd (hc i k (by omega) (by omega)) c2
          have ey := okc_cd (hc j k (by omega) (by omega)) c3
          refine blk 3 [(.aload_n 3, 0, 0, 0), (.getfield 45, 0, 0, 0), (.iload 6, 0, 0, 0), (.iconst 4, 0, 0, (nI 4)), (.imul, 0, 0, 0), (.iload 7, 0, 0, 0), (.iadd, 0, 0, 0), (.iaload, 0, 0, 0)] [cd (M (51 + i + 5) k) * 4 + cd (M (51 + j + 5) k)] (by decide +kernel) rfl (pc' := 71) (ls' := [some (.ref 35), some (.int (nI k)), some (.int (nI n)), some (.ref 2), some (.int (nI i)), some (.int (nI j)), some (.int (M (51 + i + 5) k)), some (.int (M (51 + j + 5) k))]) (st' := [.int (M 3 (cd (M (51 + i + 5) k) * 4 + cd (M (51 + j + 5) k)))]) (M' := M) rfl ⟨trivial, rfl, trivial, trivial, trivial, trivial, trivial, ⟨(ixx ex.1 ey.1), (by show _ < 16; omega)⟩, trivial⟩ ?_
          refine g_if_gt (off := 5) (tgt := 76) (by decide +kernel) (by decide) (fun c4 => ?_) (fun c4 => ?_)
          · refine blk 3 [(.iinc 5 1, 0, 0, (nI 1)), (.goto (-67), 12, 0, 0)] [] (by decide +kernel) rfl (pc' := 12) (ls' := [some (.ref 35), some (.int (nI k)), some (.int (nI n)), some (.ref 2), some (.int (nI i)), some (.int (nI j + nI 1)), some (.int (M (51 + i + 5) k)), some (.int (M (51 + j + 5) k))]) (st' := []) (M' := M) rfl ⟨trivial, trivial, trivial⟩ ?_
            refine G.sub (ls' := [some (.ref 35), some (.int (nI k)), some (.int (nI n)), some (.ref 2), some (.int (nI i)), some (.int (nI (j + 1))), none, none]) ?_ ⟨rfl, rfl, rfl, rfl, rfl, congrArg (fun z => some (Value.int z)) (by simp only [nI_add, nI_s1]), trivial⟩
            exact ih (d - 1) (by omega) (j + 1) (by omega) (by omega) (by rw [allB, ha, Bool.true_and]; simp only [aspF, decide_eq_true_eq]; exact ⟨c2, c3, c4⟩)
          · refine blk 3 [(.iconst 0, 0, 0, (nI 0))] [] (by decide +kernel) rfl (pc' := 75) (ls' := [some (.ref 35), some (.int (nI k)), some (.int (nI n)), some (.ref 2), some (.int (nI i)), some (.int (nI j)), some (.int (M (51 + i + 5) k)), some (.int (M (51 + j + 5) k))]) (st' := [.int (nI 0)]) (M' := M) rfl ⟨trivial, trivial⟩ ?_
            refine g_ireturn (by decide +kernel) rfl (by decide) (hf ?_)
            refine allB_not (i := j) (by omega) ?_
            simp only [aspF, decide_eq_false_iff_not]; exact fun z => c4 z.2.2
theorem l_asp35 {M : Mem} {k n : Nat} (hk : k < 60) (hn : n ≤ 5) (hc : ∀ a b, a < n → b < k + 1 → okc (M (51 + a + 5) b)) : ∀ d i, d = n - i → i ≤ n → allB (fun i => allB (aspF M 51 k i) i) i = true → G mX3_allScoresPositive 3 [some (.ref 35), some (.int (nI k)), some (.int (nI n)), some (.ref 2), some (.int (nI i)), none, none, none] [] M (Ret (bI (allB (fun i => allB (aspF M 51 k i) i) n)) M) := by
  intro d
  induction d using Nat.strongRecOn with
  | ind d ih =>
    intro i hd hj ha
    refine blk 3 [(.iload 4, 0, 0, 0), (.iload_n 2, 0, 0, 0)] [] (by decide +kernel) rfl (pc' := 6) (ls' := [some (.ref 35), some (.int (nI k)), some (.int (nI n)), some (.ref 2), some (.int (nI i)), none, none, none]) (st' := [.int (nI n), .int (nI i)]) (M' := M) rfl ⟨trivial, trivial, trivial⟩ ?_
    refine g_icmp_ge (off := 82) (tgt := 88) (by decide +kernel) (by decide) (fun c1 => ?_) (fun c1 => ?_)
    · have nc1 : n ≤ i := (nI_leI (by omega) (by omega)).mp (by simpa only [nI_add, pk_mul, nI_s1, n0_lit] using c1)
      refine blk 3 [(.iconst 1, 0, 0, (nI 1))] [] (by decide +kernel) rfl (pc' := 89) (ls' := [some (.ref 35), some (.int (nI k)), some (.int (nI n)), some (.ref 2), some (.int (nI i)), none, none, none]) (st' := [.int (nI 1)]) (M' := M) rfl ⟨trivial, trivial⟩ ?_
      have e : i = n := by omega
      subst e
      refine g_ireturn (by decide +kernel) rfl (by decide) ⟨?_, rfl⟩
      rw [ha]; rfl
    · have nc1 : i < n := by
        have z : ¬ nI n ≤ nI i := by simpa only [nI_add, pk_mul, nI_s1, n0_lit] using c1
        rw [nI_leI (by omega) (by omega)] at z
        omega
      refine blk 3 [(.iconst 0, 0, 0, (nI 0)), (.istore 5, 0, 0, 0)] [] (by decide +kernel) rfl (pc' := 12) (ls' := [some (.ref 35), some (.int (nI k)), some (.int (nI n)), some (.ref 2), some (.int (nI i)), some (.int (nI 0)), none, none]) (st' := []) (M' := M) rfl ⟨trivial, trivial, trivial⟩ ?_
      refine l_asp235 hk hn (by omega) hc (fun h => ih (d - 1) (by omega) (i + 1) (by omega) (by omega) (by rw [allB, ha, h]; rfl)) (fun h => ⟨?_, rfl⟩) _ 0 rfl (by omega) rfl
      rw [show allB (fun i => allB (aspF M 51 k i) i) n = false from allB_not (i := i) (by omega) h]; rfl
theorem s_asp35 (M : Mem) {k n : Nat} (hk : k < 60) (hn : n ≤ 5) (hc : ∀ a b, a < n → b < k + 1 → okc (M (51 + a + 5) b)) : Spec mX3_allScoresPositive [.ref 35, .int (nI k), .int (nI n), .ref 2] M (Ret (bI (allB (fun i => allB (aspF M 51 k i) i) n)) M) := by
  refine Spec.of (by decide) (by simp [Value.category]) (Nat.le_of_ble_eq_true rfl) ?_
  refine blk 3 [(.iconst 0, 0, 0, (nI 0)), (.istore 4, 0, 0, 0)] [] (by decide +kernel) rfl (pc' := 3) (ls' := [some (.ref 35), some (.int (nI k)), some (.int (nI n)), some (.ref 2), some (.int (nI 0)), none, none, none]) (st' := []) (M' := M) rfl ⟨trivial, trivial, trivial⟩ ?_
  exact l_asp35 hk hn hc _ 0 rfl (by omega) rfl
theorem l_has37 {M : Mem} {S : Int32} {k : Nat} (hk : k < 60) : ∀ d i, d = 5 - i → i ≤ 5 → anyB (hasF M 61 S k) i = false → G mX3_hasLetter 2 [some (.ref 37), some (.int (nI k)), some (.int S), some (.int (nI i))] [] M (Ret (bI (anyB (hasF M 61 S k) 5)) M) := by
  intro d
  induction d using Nat.strongRecOn with
  | ind d ih =>
    intro i hd hj ha
    refine blk 3 [(.iload_n 3, 0, 0, 0), (.iconst 5, 0, 0, (nI 5))] [] (by decide +kernel) rfl (pc' := 4) (ls' := [some (.ref 37), some (.int (nI k)), some (.int S), some (.int (nI i))]) (st' := [.int (nI 5), .int (nI i)]) (M' := M) rfl ⟨trivial, trivial, trivial⟩ ?_
    refine g_icmp_ge (off := 34) (tgt := 38) (by decide +kernel) (by decide) (fun c1 => ?_) (fun c1 => ?_)
    · have nc1 : 5 ≤ i := (nI_leI (by omega) (by omega)).mp (by simpa only [nI_add, pk_mul, nI_s1, n0_lit] using c1)
      refine blk 3 [(.iconst 0, 0, 0, (nI 0))] [] (by decide +kernel) rfl (pc' := 39) (ls' := [some (.ref 37), some (.int (nI k)), some (.int S), some (.int (nI i))]) (st' := [.int (nI 0)]) (M' := M) rfl ⟨trivial, trivial⟩ ?_
      have e : i = 5 := by omega
      subst e
      refine g_ireturn (by decide +kernel) rfl (by decide) ⟨?_, rfl⟩
      rw [ha]; rfl
    · have nc1 : i < 5 := by
        have z : ¬ nI 5 ≤ nI i := by simpa only [nI_add, pk_mul, nI_s1, n0_lit] using c1
        rw [nI_leI (by omega) (by omega)] at z
        omega
      refine blk 3 [(.iload_n 2, 0, 0, 0), (.iload_n 3, 0, 0, 0)] [] (by decide +kernel) rfl (pc' := 9) (ls' := [some (.ref 37), some (.int (nI k)), some (.int S), some (.int (nI i))]) (st' := [.int (nI i), .int S]) (M' := M) rfl ⟨trivial, trivial, trivial⟩ ?_
      refine g_callN (index := 28) (s_holds _ S i) rfl (by decide) ⟨ok_X6_holds.1, ok_X6_holds.2.1, ok_X6_holds.2.2.1, ok_X6_holds.2.2.2, by decide +kernel, by decide +kernel⟩ (by decide +kernel) rfl (Nat.le_of_ble_eq_true rfl) (fun r M' h => ?_) rfl
      obtain ⟨hr, hM⟩ := h
      rw [hr, hM]
      show G _ 12 [some (.ref 37), some (.int (nI k)), some (.int S), some (.int (nI i))] [.int (hb S i)] M _
      refine g_if_eq (off := 20) (tgt := 32) (by decide +kernel) (by decide) (fun c2 => ?_) (fun c2 => ?_)
      · refine blk 3 [(.iinc 3 1, 0, 0, (nI 1)), (.goto (-33), 2, 0, 0)] [] (by decide +kernel) rfl (pc' := 2) (ls' := [some (.ref 37), some (.int (nI k)), some (.int S), some (.int (nI i + nI 1))]) (st' := []) (M' := M) rfl ⟨trivial, trivial, trivial⟩ ?_
        refine G.sub (ls' := [some (.ref 37), some (.int (nI k)), some (.int S), some (.int (nI (i + 1)))]) ?_ ⟨rfl, rfl, rfl, congrArg (fun z => some (Value.int z)) (nI_add _ _), trivial⟩
        exact ih (d - 1) (by omega) (i + 1) (by omega) (by omega) (by rw [anyB, ha, Bool.false_or]; simp only [hasF, decide_eq_false_iff_not]; simp_all)
      · refine blk 3 [(.aload_n 0, 0, 0, 0), (.getfield 11, 3, 0, 0), (.iload_n 3, 0, 0, 0), (.aaload, 0, 0, 0), (.getfield 31, 2, 0, 0), (.iload_n 1, 0, 0, 0), (.iaload, 0, 0, 0), (.iconst (-1), 0, 0, (-1))] [i, k] (by decide +kernel) rfl (pc' := 27) (ls' := [some (.ref 37), some (.int (nI k)), some (.int S), some (.int (nI i))]) (st' := [.int (-1), .int (M (61 + i + 5) k)]) (M' := M) rfl ⟨trivial, rfl, trivial, ⟨rfl, (by show _ < 5; omega)⟩, (kd61 (by omega)), trivial, ⟨rfl, (Nat.lt_of_lt_of_eq (by omega : k < 60) (al66 (i := i) (by omega)).symm)⟩, trivial, trivial⟩ ?_
        refine g_icmp_eq (off := 5) (tgt := 32) (by decide +kernel) (by decide) (fun c3 => ?_) (fun c3 => ?_)
        · refine blk 3 [(.iinc 3 1, 0, 0, (nI 1)), (.goto (-33), 2, 0, 0)] [] (by decide +kernel) rfl (pc' := 2) (ls' := [some (.ref 37), some (.int (nI k)), some (.int S), some (.int (nI i + nI 1))]) (st' := []) (M' := M) rfl ⟨trivial, trivial, trivial⟩ ?_
          refine G.sub (ls' := [some (.ref 37), some (.int (nI k)), some (.int S), some (.int (nI (i + 1)))]) ?_ ⟨rfl, rfl, rfl, congrArg (fun z => some (Value.int z)) (nI_add _ _), trivial⟩
          exact ih (d - 1) (by omega) (i + 1) (by omega) (by omega) (by rw [anyB, ha, Bool.false_or]; simp only [hasF, decide_eq_false_iff_not]; simp_all)
        · refine blk 3 [(.iconst 1, 0, 0, (nI 1))] [] (by decide +kernel) rfl (pc' := 31) (ls' := [some (.ref 37), some (.int (nI k)), some (.int S), some (.int (nI i))]) (st' := [.int (nI 1)]) (M' := M) rfl ⟨trivial, trivial⟩ ?_
          refine g_ireturn (by decide +kernel) rfl (by decide) ⟨?_, rfl⟩
          rw [show anyB (hasF M 61 S k) 5 = true from anyB_of (i := i) (by omega) (by simp only [hasF, decide_eq_true_eq]; exact ⟨c2, c3⟩)]; rfl
theorem s_has37 (M : Mem) (S : Int32) {k : Nat} (hk : k < 60) : Spec mX3_hasLetter [.ref 37, .int (nI k), .int S] M (Ret (bI (anyB (hasF M 61 S k) 5)) M) := by
  refine Spec.of (by decide) (by simp [Value.category]) (Nat.le_of_ble_eq_true rfl) ?_
  refine blk 3 [(.iconst 0, 0, 0, (nI 0)), (.istore_n 3, 0, 0, 0)] [] (by decide +kernel) rfl (pc' := 2) (ls' := [some (.ref 37), some (.int (nI k)), some (.int S), some (.int (nI 0))]) (st' := []) (M' := M) rfl ⟨trivial, trivial, trivial⟩ ?_
  exact l_has37 hk _ 0 rfl (by omega) rfl
theorem l_most237 {M : Mem} {k n x : Nat} {A : Int32} {Post : Option Value → Mem → Prop} (hk : k < 60) (hn : n ≤ 5) (hx : x < 4) (hp : G mX3_mostOfOneLetter 5 [some (.ref 37), some (.int (nI k)), some (.int (nI n)), some (.int (if A < psum (cntF M 61 k x) n then psum (cntF M 61 k x) n else A)), some (.int (nI (x + 1))), none, none] [] M Post) : ∀ d i, d = n - i → i ≤ n → G mX3_mostOfOneLetter 17 [some (.ref 37), some (.int (nI k)), some (.int (nI n)), some (.int A), some (.int (nI x)), some (.int (psum (cntF M 61 k x) i)), some (.int (nI i))] [] M Post := by
  intro d
  induction d using Nat.strongRecOn with
  | ind d ih =>
    intro i hd hj
    refine blk 3 [(.iload 6, 0, 0, 0), (.iload_n 2, 0, 0, 0)] [] (by decide +kernel) rfl (pc' := 20) (ls' := [some (.ref 37), some (.int (nI k)), some (.int (nI n)), some (.int A), some (.int (nI x)), some (.int (psum (cntF M 61 k x) i)), some (.int (nI i))]) (st' := [.int (nI n), .int (nI i)]) (M' := M) rfl ⟨trivial, trivial, trivial⟩ ?_
    refine g_icmp_ge (off := 29) (tgt := 49) (by decide +kernel) (by decide) (fun c1 => ?_) (fun c1 => ?_)
    · have nc1 : n ≤ i := (nI_leI (by omega) (by omega)).mp (by simpa only [nI_add, pk_mul, nI_s1, n0_lit] using c1)
      refine blk 3 [(.iload_n 3, 0, 0, 0), (.iload 5, 0, 0, 0)] [] (by decide +kernel) rfl (pc' := 52) (ls' := [some (.ref 37), some (.int (nI k)), some (.int (nI n)), some (.int A), some (.int (nI x)), some (.int (psum (cntF M 61 k x) i)), some (.int (nI i))]) (st' := [.int (psum (cntF M 61 k x) i), .int A]) (M' := M) rfl ⟨trivial, trivial, trivial⟩ ?_
      refine g_mmax (index := 39) (TB_in (by decide +kernel) (by decide +kernel)) (TB_in (by decide +kernel) (by decide +kernel)) (TB_in (by decide +kernel) (by decide +kernel)) (TB_in (by decide +kernel) (by decide +kernel)) (by decide) (Nat.le_of_ble_eq_true rfl) (by decide +kernel) ?_
      refine blk 3 [(.istore_n 3, 0, 0, 0), (.iinc 4 1, 0, 0, (nI 1)), (.goto (-54), 5, 0, 0)] [] (by decide +kernel) rfl (pc' := 5) (ls' := [some (.ref 37), some (.int (nI k)), some (.int (nI n)), some (.int (if A < (psum (cntF M 61 k x) i) then psum (cntF M 61 k x) i else A)), some (.int (nI x + nI 1)), some (.int (psum (cntF M 61 k x) i)), some (.int (nI i))]) (st' := []) (M' := M) rfl ⟨trivial, trivial, trivial, trivial⟩ ?_
      have e : i = n := by omega
      subst e
      refine G.sub (ls' := [some (.ref 37), some (.int (nI k)), some (.int (nI i)), some (.int (if A < psum (cntF M 61 k x) i then psum (cntF M 61 k x) i else A)), some (.int (nI (x + 1))), none, none]) ?_ ⟨rfl, rfl, congrArg (fun z => some (Value.int z)) rfl, congrArg (fun z => some (Value.int z)) rfl, congrArg (fun z => some (Value.int z)) (by simp only [nI_add, nI_s1]), trivial⟩
      exact hp
    · have nc1 : i < n := by
        have z : ¬ nI n ≤ nI i := by simpa only [nI_add, pk_mul, nI_s1, n0_lit] using c1
        rw [nI_leI (by omega) (by omega)] at z
        omega
      refine blk 3 [(.aload_n 0, 0, 0, 0), (.getfield 11, 3, 0, 0), (.iload 6, 0, 0, 0), (.aaload, 0, 0, 0), (.getfield 31, 2, 0, 0), (.iload_n 1, 0, 0, 0), (.iaload, 0, 0, 0), (.iload 4, 0, 0, 0)] [i, k] (by decide +kernel) rfl (pc' := 37) (ls' := [some (.ref 37), some (.int (nI k)), some (.int (nI n)), some (.int A), some (.int (nI x)), some (.int (psum (cntF M 61 k x) i)), some (.int (nI i))]) (st' := [.int (nI x), .int (M (61 + i + 5) k)]) (M' := M) rfl ⟨trivial, rfl, trivial, ⟨rfl, (by show _ < 5; omega)⟩, (kd61 (by omega)), trivial, ⟨rfl, (Nat.lt_of_lt_of_eq (by omega : k < 60) (al66 (i := i) (by omega)).symm)⟩, trivial, trivial⟩ ?_
      refine g_icmp_ne (off := 6) (tgt := 43) (by decide +kernel) (by decide) (fun c2 => ?_) (fun c2 => ?_)
      · refine blk 3 [(.iinc 6 1, 0, 0, (nI 1)), (.goto (-29), 17, 0, 0)] [] (by decide +kernel) rfl (pc' := 17) (ls' := [some (.ref 37), some (.int (nI k)), some (.int (nI n)), some (.int A), some (.int (nI x)), some (.int (psum (cntF M 61 k x) i)), some (.int (nI i + nI 1))]) (st' := []) (M' := M) rfl ⟨trivial, trivial, trivial⟩ ?_
        have e : psum (cntF M 61 k x) (i + 1) = psum (cntF M 61 k x) i := by
          rw [psum, show cntF M 61 k x i = 0 by simp only [cntF]; simp_all]; exact Int32.add_zero _
        refine G.sub (ls' := [some (.ref 37), some (.int (nI k)), some (.int (nI n)), some (.int A), some (.int (nI x)), some (.int (psum (cntF M 61 k x) (i + 1))), some (.int (nI (i + 1)))]) ?_ ⟨rfl, rfl, rfl, rfl, rfl, congrArg (fun z => some (Value.int z)) e.symm, congrArg (fun z => some (Value.int z)) (by simp only [nI_add, nI_s1]), trivial⟩
        exact ih (d - 1) (by omega) (i + 1) (by omega) (by omega)
      · refine blk 3 [(.iinc 5 1, 0, 0, (nI 1)), (.iinc 6 1, 0, 0, (nI 1)), (.goto (-29), 17, 0, 0)] [] (by decide +kernel) rfl (pc' := 17) (ls' := [some (.ref 37), some (.int (nI k)), some (.int (nI n)), some (.int A), some (.int (nI x)), some (.int (psum (cntF M 61 k x) i + nI 1)), some (.int (nI i + nI 1))]) (st' := []) (M' := M) rfl ⟨trivial, trivial, trivial, trivial⟩ ?_
        have e : psum (cntF M 61 k x) (i + 1) = psum (cntF M 61 k x) i + nI 1 := by
          rw [psum, show cntF M 61 k x i = 1 by simp only [cntF]; simp_all]; rfl
        refine G.sub (ls' := [some (.ref 37), some (.int (nI k)), some (.int (nI n)), some (.int A), some (.int (nI x)), some (.int (psum (cntF M 61 k x) (i + 1))), some (.int (nI (i + 1)))]) ?_ ⟨rfl, rfl, rfl, rfl, rfl, congrArg (fun z => some (Value.int z)) e.symm, congrArg (fun z => some (Value.int z)) (by simp only [nI_add, nI_s1]), trivial⟩
        exact ih (d - 1) (by omega) (i + 1) (by omega) (by omega)
theorem l_most37 {M : Mem} {k n : Nat} (hk : k < 60) (hn : n ≤ 5) : ∀ d x, d = 4 - x → x ≤ 4 → G mX3_mostOfOneLetter 5 [some (.ref 37), some (.int (nI k)), some (.int (nI n)), some (.int (pmax (fun x => psum (cntF M 61 k x) n) x)), some (.int (nI x)), none, none] [] M (Ret (pmax (fun x => psum (cntF M 61 k x) n) 4) M) := by
  intro d
  induction d using Nat.strongRecOn with
  | ind d ih =>
    intro x hd hj
    refine blk 3 [(.iload 4, 0, 0, 0), (.iconst 4, 0, 0, (nI 4))] [] (by decide +kernel) rfl (pc' := 8) (ls' := [some (.ref 37), some (.int (nI k)), some (.int (nI n)), some (.int (pmax (fun x => psum (cntF M 61 k x) n) x)), some (.int (nI x)), none, none]) (st' := [.int (nI 4), .int (nI x)]) (M' := M) rfl ⟨trivial, trivial, trivial⟩ ?_
    refine g_icmp_ge (off := 54) (tgt := 62) (by decide +kernel) (by decide) (fun c1 => ?_) (fun c1 => ?_)
    · have nc1 : 4 ≤ x := (nI_leI (by omega) (by omega)).mp (by simpa only [nI_add, pk_mul, nI_s1, n0_lit] using c1)
      refine blk 3 [(.iload_n 3, 0, 0, 0)] [] (by decide +kernel) rfl (pc' := 63) (ls' := [some (.ref 37), some (.int (nI k)), some (.int (nI n)), some (.int (pmax (fun x => psum (cntF M 61 k x) n) x)), some (.int (nI x)), none, none]) (st' := [.int (pmax (fun x => psum (cntF M 61 k x) n) x)]) (M' := M) rfl ⟨trivial, trivial⟩ ?_
      have e : x = 4 := by omega
      subst e
      exact g_ireturn (by decide +kernel) rfl rfl ⟨rfl, rfl⟩
    · have nc1 : x < 4 := by
        have z : ¬ nI 4 ≤ nI x := by simpa only [nI_add, pk_mul, nI_s1, n0_lit] using c1
        rw [nI_leI (by omega) (by omega)] at z
        omega
      refine blk 3 [(.iconst 0, 0, 0, (nI 0)), (.istore 5, 0, 0, 0), (.iconst 0, 0, 0, (nI 0)), (.istore 6, 0, 0, 0)] [] (by decide +kernel) rfl (pc' := 17) (ls' := [some (.ref 37), some (.int (nI k)), some (.int (nI n)), some (.int (pmax (fun x => psum (cntF M 61 k x) n) x)), some (.int (nI x)), some (.int (nI 0)), some (.int (nI 0))]) (st' := []) (M' := M) rfl ⟨trivial, trivial, trivial, trivial, trivial⟩ ?_
      exact l_most237 hk hn (by omega) (ih (d - 1) (by omega) (x + 1) (by omega) (by omega)) _ 0 rfl (by omega)
theorem s_most37 (M : Mem) {k n : Nat} (hk : k < 60) (hn : n ≤ 5) : Spec mX3_mostOfOneLetter [.ref 37, .int (nI k), .int (nI n)] M (Ret (pmax (fun x => psum (cntF M 61 k x) n) 4) M) := by
  refine Spec.of (by decide) (by simp [Value.category]) (Nat.le_of_ble_eq_true rfl) ?_
  refine blk 3 [(.iconst 0, 0, 0, (nI 0)), (.istore_n 3, 0, 0, 0), (.iconst 0, 0, 0, (nI 0)), (.istore 4, 0, 0, 0)] [] (by decide +kernel) rfl (pc' := 5) (ls' := [some (.ref 37), some (.int (nI k)), some (.int (nI n)), some (.int (nI 0)), some (.int (nI 0)), none, none]) (st' := []) (M' := M) rfl ⟨trivial, trivial, trivial, trivial, trivial⟩ ?_
  exact l_most37 hk hn _ 0 rfl (by omega)
theorem l_asp237 {M : Mem} {k n i : Nat} {Post : Option Value → Mem → Prop} (hk : k < 60) (hn : n ≤ 5) (hi : i < n) (hc : ∀ a b, a < n → b < k + 1 → okc (M (61 + a + 5) b)) (hp : allB (aspF M 61 k i) i = true → G mX3_allScoresPositive 3 [some (.ref 37), some (.int (nI k)), some (.int (nI n)), some (.ref 2), some (.int (nI (i + 1))), none, none, none] [] M Post) (hf : allB (aspF M 61 k i) i = false → Post (some (.int (nI 0))) M) : ∀ d j, d = i - j → j ≤ i → allB (aspF M 61 k i) j = true → G mX3_allScoresPositive 12 [some (.ref 37), some (.int (nI k)), some (.int (nI n)), some (.ref 2), some (.int (nI i)), some (.int (nI j)), none, none] [] M Post := by
  intro d
  induction d using Nat.strongRecOn with
  | ind d ih =>
    intro j hd hj ha
    refine blk 3 [(.iload 5, 0, 0, 0), (.iload 4, 0, 0, 0)] [] (by decide +kernel) rfl (pc' := 16) (ls' := [some (.ref 37), some (.int (nI k)), some (.int (nI n)), some (.ref 2), some (.int (nI i)), some (.int (nI j)), none, none]) (st' := [.int (nI i), .int (nI j)]) (M' := M) rfl ⟨trivial, trivial, trivial⟩ ?_
    refine g_icmp_ge (off := 66) (tgt := 82) (by decide +kernel) (by decide) (fun c1 => ?_) (fun c1 => ?_)
    · have nc1 : i ≤ j := (nI_leI (by omega) (by omega)).mp (by simpa only [nI_add, pk_mul, nI_s1, n0_lit] using c1)
      refine blk 3 [(.iinc 4 1, 0, 0, (nI 1)), (.goto (-82), 3, 0, 0)] [] (by decide +kernel) rfl (pc' := 3) (ls' := [some (.ref 37), some (.int (nI k)), some (.int (nI n)), some (.ref 2), some (.int (nI i + nI 1)), some (.int (nI j)), none, none]) (st' := []) (M' := M) rfl ⟨trivial, trivial, trivial⟩ ?_
      have e : j = i := by omega
      subst e
      refine G.sub (ls' := [some (.ref 37), some (.int (nI k)), some (.int (nI n)), some (.ref 2), some (.int (nI (j + 1))), none, none, none]) ?_ ⟨rfl, rfl, rfl, rfl, congrArg (fun z => some (Value.int z)) (nI_add _ _), trivial⟩
      exact hp ha
    · have nc1 : j < i := by
        have z : ¬ nI i ≤ nI j := by simpa only [nI_add, pk_mul, nI_s1, n0_lit] using c1
        rw [nI_leI (by omega) (by omega)] at z
        omega
      refine blk 3 [(.aload_n 0, 0, 0, 0), (.getfield 11, 3, 0, 0), (.iload 4, 0, 0, 0), (.aaload, 0, 0, 0), (.getfield 31, 2, 0, 0), (.iload_n 1, 0, 0, 0), (.iaload, 0, 0, 0), (.istore 6, 0, 0, 0), (.aload_n 0, 0, 0, 0), (.getfield 11, 3, 0, 0), (.iload 5, 0, 0, 0), (.aaload, 0, 0, 0), (.getfield 31, 2, 0, 0), (.iload_n 1, 0, 0, 0), (.iaload, 0, 0, 0), (.istore 7, 0, 0, 0), (.iload 6, 0, 0, 0), (.iconst (-1), 0, 0, (-1))] [i, k, j, k] (by decide +kernel) rfl (pc' := 50) (ls' := [some (.ref 37), some (.int (nI k)), some (.int (nI n)), some (.ref 2), some (.int (nI i)), some (.int (nI j)), some (.int (M (61 + i + 5) k)), some (.int (M (61 + j + 5) k))]) (st' := [.int (-1), .int (M (61 + i + 5) k)]) (M' := M) rfl ⟨trivial, rfl, trivial, ⟨rfl, (by show _ < 5; omega)⟩, (kd61 (by omega)), trivial, ⟨rfl, (Nat.lt_of_lt_of_eq (by omega : k < 60) (al66 (i := i) (by omega)).symm)⟩, trivial, trivial, rfl, trivial, ⟨rfl, (by show _ < 5; omega)⟩, (kd61 (by omega)), trivial, ⟨rfl, (Nat.lt_of_lt_of_eq (by omega : k < 60) (al66 (i := j) (by omega)).symm)⟩, trivial, trivial, trivial, trivial⟩ ?_
      refine g_icmp_eq (off := 24) (tgt := 74) (by decide +kernel) (by decide) (fun c2 => ?_) (fun c2 => ?_)
      · refine blk 3 [(.iconst 0, 0, 0, (nI 0))] [] (by decide +kernel) rfl (pc' := 75) (ls' := [some (.ref 37), some (.int (nI k)), some (.int (nI n)), some (.ref 2), some (.int (nI i)), some (.int (nI j)), some (.int (M (61 + i + 5) k)), some (.int (M (61 + j + 5) k))]) (st' := [.int (nI 0)]) (M' := M) rfl ⟨trivial, trivial⟩ ?_
        refine g_ireturn (by decide +kernel) rfl (by decide) (hf ?_)
        refine allB_not (i := j) (by omega) ?_
        simp only [aspF, decide_eq_false_iff_not]; exact fun z => z.1 c2
      · refine blk 3 [(.iload 7, 0, 0, 0), (.iconst (-1), 0, 0, (-1))] [] (by decide +kernel) rfl (pc' := 56) (ls' := [some (.ref 37), some (.int (nI k)), some (.int (nI n)), some (.ref 2), some (.int (nI i)), some (.int (nI j)), some (.int (M (61 + i + 5) k)), some (.int (M (61 + j + 5) k))]) (st' := [.int (-1), .int (M (61 + j + 5) k)]) (M' := M) rfl ⟨trivial, trivial, trivial⟩ ?_
        refine g_icmp_eq (off := 18) (tgt := 74) (by decide +kernel) (by decide) (fun c3 => ?_) (fun c3 => ?_)
        · refine blk 3 [(.iconst 0, 0, 0, (nI 0))] [] (by decide +kernel) rfl (pc' := 75) (ls' := [some (.ref 37), some (.int (nI k)), some (.int (nI n)), some (.ref 2), some (.int (nI i)), some (.int (nI j)), some (.int (M (61 + i + 5) k)), some (.int (M (61 + j + 5) k))]) (st' := [.int (nI 0)]) (M' := M) rfl ⟨trivial, trivial⟩ ?_
          refine g_ireturn (by decide +kernel) rfl (by decide) (hf ?_)
          refine allB_not (i := j) (by omega) ?_
          simp only [aspF, decide_eq_false_iff_not]; exact fun z => z.2.1 c3
        · have ex := okc_cd (hc i k (by omega) (by omega)) c2
          have ey := okc_cd (hc j k (by omega) (by omega)) c3
          refine blk 3 [(.aload_n 3, 0, 0, 0), (.getfield 45, 0, 0, 0), (.iload 6, 0, 0, 0), (.iconst 4, 0, 0, (nI 4)), (.imul, 0, 0, 0), (.iload 7, 0, 0, 0), (.iadd, 0, 0, 0), (.iaload, 0, 0, 0)] [cd (M (61 + i + 5) k) * 4 + cd (M (61 + j + 5) k)] (by decide +kernel) rfl (pc' := 71) (ls' := [some (.ref 37), some (.int (nI k)), some (.int (nI n)), some (.ref 2), some (.int (nI i)), some (.int (nI j)), some (.int (M (61 + i + 5) k)), some (.int (M (61 + j + 5) k))]) (st' := [.int (M 3 (cd (M (61 + i + 5) k) * 4 + cd (M (61 + j + 5) k)))]) (M' := M) rfl ⟨trivial, rfl, trivial, trivial, trivial, trivial, trivial, ⟨(ixx ex.1 ey.1), (by show _ < 16; omega)⟩, trivial⟩ ?_
          refine g_if_gt (off := 5) (tgt := 76) (by decide +kernel) (by decide) (fun c4 => ?_) (fun c4 => ?_)
          · refine blk 3 [(.iinc 5 1, 0, 0, (nI 1)), (.goto (-67), 12, 0, 0)] [] (by decide +kernel) rfl (pc' := 12) (ls' := [some (.ref 37), some (.int (nI k)), some (.int (nI n)), some (.ref 2), some (.int (nI i)), some (.int (nI j + nI 1)), some (.int (M (61 + i + 5) k)), some (.int (M (61 + j + 5) k))]) (st' := []) (M' := M) rfl ⟨trivial, trivial, trivial⟩ ?_
            refine G.sub (ls' := [some (.ref 37), some (.int (nI k)), some (.int (nI n)), some (.ref 2), some (.int (nI i)), some (.int (nI (j + 1))), none, none]) ?_ ⟨rfl, rfl, rfl, rfl, rfl, congrArg (fun z => some (Value.int z)) (by simp only [nI_add, nI_s1]), trivial⟩
            exact ih (d - 1) (by omega) (j + 1) (by omega) (by omega) (by rw [allB, ha, Bool.true_and]; simp only [aspF, decide_eq_true_eq]; exact ⟨c2, c3, c4⟩)
          · refine blk 3 [(.iconst 0, 0, 0, (nI 0))] [] (by decide +kernel) rfl (pc' := 75) (ls' := [some (.ref 37), some (.int (nI k)), some (.int (nI n)), some (.ref 2), some (.int (nI i)), some (.int (nI j)), some (.int (M (61 + i + 5) k)), some (.int (M (61 + j + 5) k))]) (st' := [.int (nI 0)]) (M' := M) rfl ⟨trivial, trivial⟩ ?_
            refine g_ireturn (by decide +kernel) rfl (by decide) (hf ?_)
            refine allB_not (i := j) (by omega) ?_
            simp only [aspF, decide_eq_false_iff_not]; exact fun z => c4 z.2.2
theorem l_asp37 {M : Mem} {k n : Nat} (hk : k < 60) (hn : n ≤ 5) (hc : ∀ a b, a < n → b < k + 1 → okc (M (61 + a + 5) b)) : ∀ d i, d = n - i → i ≤ n → allB (fun i => allB (aspF M 61 k i) i) i = true → G mX3_allScoresPositive 3 [some (.ref 37), some (.int (nI k)), some (.int (nI n)), some (.ref 2), some (.int (nI i)), none, none, none] [] M (Ret (bI (allB (fun i => allB (aspF M 61 k i) i) n)) M) := by
  intro d
  induction d using Nat.strongRecOn with
  | ind d ih =>
    intro i hd hj ha
    refine blk 3 [(.iload 4, 0, 0, 0), (.iload_n 2, 0, 0, 0)] [] (by decide +kernel) rfl (pc' := 6) (ls' := [some (.ref 37), some (.int (nI k)), some (.int (nI n)), some (.ref 2), some (.int (nI i)), none, none, none]) (st' := [.int (nI n), .int (nI i)]) (M' := M) rfl ⟨trivial, trivial, trivial⟩ ?_
    refine g_icmp_ge (off := 82) (tgt := 88) (by decide +kernel) (by decide) (fun c1 => ?_) (fun c1 => ?_)
    · have nc1 : n ≤ i := (nI_leI (by omega) (by omega)).mp (by simpa only [nI_add, pk_mul, nI_s1, n0_lit] using c1)
      refine blk 3 [(.iconst 1, 0, 0, (nI 1))] [] (by decide +kernel) rfl (pc' := 89) (ls' := [some (.ref 37), some (.int (nI k)), some (.int (nI n)), some (.ref 2), some (.int (nI i)), none, none, none]) (st' := [.int (nI 1)]) (M' := M) rfl ⟨trivial, trivial⟩ ?_
      have e : i = n := by omega
      subst e
      refine g_ireturn (by decide +kernel) rfl (by decide) ⟨?_, rfl⟩
      rw [ha]; rfl
    · have nc1 : i < n := by
        have z : ¬ nI n ≤ nI i := by simpa only [nI_add, pk_mul, nI_s1, n0_lit] using c1
        rw [nI_leI (by omega) (by omega)] at z
        omega
      refine blk 3 [(.iconst 0, 0, 0, (nI 0)), (.istore 5, 0, 0, 0)] [] (by decide +kernel) rfl (pc' := 12) (ls' := [some (.ref 37), some (.int (nI k)), some (.int (nI n)), some (.ref 2), some (.int (nI i)), some (.int (nI 0)), none, none]) (st' := []) (M' := M) rfl ⟨trivial, trivial, trivial⟩ ?_
      refine l_asp237 hk hn (by omega) hc (fun h => ih (d - 1) (by omega) (i + 1) (by omega) (by omega) (by rw [allB, ha, h]; rfl)) (fun h => ⟨?_, rfl⟩) _ 0 rfl (by omega) rfl
      rw [show allB (fun i => allB (aspF M 61 k i) i) n = false from allB_not (i := i) (by omega) h]; rfl
theorem s_asp37 (M : Mem) {k n : Nat} (hk : k < 60) (hn : n ≤ 5) (hc : ∀ a b, a < n → b < k + 1 → okc (M (61 + a + 5) b)) : Spec mX3_allScoresPositive [.ref 37, .int (nI k), .int (nI n), .ref 2] M (Ret (bI (allB (fun i => allB (aspF M 61 k i) i) n)) M) := by
  refine Spec.of (by decide) (by simp [Value.category]) (Nat.le_of_ble_eq_true rfl) ?_
  refine blk 3 [(.iconst 0, 0, 0, (nI 0)), (.istore 4, 0, 0, 0)] [] (by decide +kernel) rfl (pc' := 3) (ls' := [some (.ref 37), some (.int (nI k)), some (.int (nI n)), some (.ref 2), some (.int (nI 0)), none, none, none]) (st' := []) (M' := M) rfl ⟨trivial, trivial, trivial⟩ ?_
  exact l_asp37 hk hn hc _ 0 rfl (by omega) rfl
