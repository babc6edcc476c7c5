/-! Merger.unite: the tables -/
theorem plc_inj {a b c d q : Nat} (hb : b ≤ q) (hd : d ≤ q) (h : a * (q + 1) + b = c * (q + 1) + d) : a = c ∧ b = d := by
  have h1 : (a * (q + 1) + b) / (q + 1) = a := by
    rw [Nat.mul_comm, Nat.mul_add_div (by omega), Nat.div_eq_of_lt (by omega)]; omega
  have h2 : (c * (q + 1) + d) / (q + 1) = c := by
    rw [Nat.mul_comm, Nat.mul_add_div (by omega), Nat.div_eq_of_lt (by omega)]; omega
  have h3 : a = c := by rw [← h1, ← h2, h]
  subst h3
  exact ⟨rfl, by omega⟩
theorem dpv_keep {M N : Mem} {p q i j i0 j0 l : Nat} (hN : filP M p q i0 j0 none N) (hi : i ≤ p) (hj : j ≤ q) (hj0 : j0 ≤ q) (h : i0 < i ∨ (i = i0 ∧ j0 ≤ j)) : dpv N p q i j l = dpv M p q i j l := by
  obtain ⟨-, f1, f2, f3, f4, f5⟩ := hN
  have e1 : lkB N p q i j = lkB M p q i j := by
    unfold lkB
    by_cases c : i < p ∧ j < q
    · rw [if_pos c, if_pos c, mtF_congr (f5 6 (by decide) (by omega)) (f5 9 (by decide) (by omega)) (f5 3 (by decide) (by omega))]
      have := f2 0 ((i + 1) * (q + 1) + (j + 1)) (by omega) (fun z => by have := plc_inj (by omega) hj0 z; omega)
      rw [Nat.add_zero] at this
      rw [this]
    · rw [if_neg c, if_neg c]
  have e2 : lkL N p q i j = lkL M p q i j := by
    unfold lkL
    by_cases c : i < p
    · rw [if_pos c, if_pos c, f5 2 (by decide) (by omega), f5 7 (by decide) (by omega), f5 8 (by decide) (by omega)]
      have := f2 1 ((i + 1) * (q + 1) + j) (by omega) (fun z => by have := plc_inj (by omega) hj0 z; omega)
      rw [show 12 + 1 = 13 from rfl] at this
      rw [this]
    · rw [if_neg c, if_neg c]
  have e3 : lkR N p q i j = lkR M p q i j := by
    unfold lkR
    by_cases c : j < q
    · rw [if_pos c, if_pos c, f5 2 (by decide) (by omega), f5 10 (by decide) (by omega), f5 5 (by decide) (by omega)]
      have := f2 2 (i * (q + 1) + (j + 1)) (by omega) (fun z => by have := plc_inj (by omega) hj0 z; omega)
      rw [show 12 + 2 = 14 from rfl] at this
      rw [this]
    · rw [if_neg c, if_neg c]
  unfold dpv
  rw [e1, e2, e3, f4]
theorem tb_step {M N : Mem} {p q i0 j0 : Nat} {D : Nat → Nat → Prop} (hN : filP M p q i0 j0 none N) (hj0 : j0 ≤ q) (hD : ∀ i j, D i j → i0 < i ∨ (i = i0 ∧ j0 < j)) (h : tb M p q D) : tb N p q (fun i j => D i j ∨ (i = i0 ∧ j = j0)) := by
  intro i j l hi hj hl hd
  rcases hd with hd | ⟨rfl, rfl⟩
  · have hlt := hD i j hd
    rw [dpv_keep hN hi hj hj0 (by omega), ← h i j l hi hj hl hd]
    exact hN.2.2.1 l _ hl (fun z => by have := plc_inj hj hj0 z; omega)
  · rw [dpv_keep hN hi hj hj0 (by omega)]
    exact hN.2.1 l hl
theorem tb_mono {M : Mem} {p q : Nat} {D E : Nat → Nat → Prop} (h : tb M p q D) (hE : ∀ i j, i ≤ p → j ≤ q → E i j → D i j) : tb M p q E := fun i j l hi hj hl he => h i j l hi hj hl (hE i j hi hj he)
/-- what filling leaves alone -/
def keepT (R T : Mem) : Prop := T 4 5 = R 4 5 ∧ T 4 6 = R 4 6 ∧ ∀ z, z ≠ 4 → (z < 12 ∨ 14 < z) → T z = R z
theorem l_uni235 {R : Mem} {P Q : Int32} {v p q i : Nat} {Post : Option Value → Mem → Prop} (hm : mrg R p q) (hi : i ≤ p) (hp : ∀ M, keepT R M → tb M p q (fun a c => i < a ∨ (a = i ∧ 0 ≤ c)) → G mX1_unite 91 [some (.ref 4), some (.ref 35), some (.int P), some (.int Q), some (.ref v), some (.int (nI i)), none] [] M Post) : ∀ b M, b ≤ q + 1 → keepT R M → tb M p q (fun a c => i < a ∨ (a = i ∧ b ≤ c)) → G mX1_unite 72 [some (.ref 4), some (.ref 35), some (.int P), some (.int Q), some (.ref v), some (.int (nI i)), some (.int (nI b - nI 1))] [] M Post := by
  have ⟨m1, m2, m3, m4, m5⟩ := hm
  intro b
  induction b with
  | zero =>
    intro M hb i1 i2
    refine blk 1 [(.iload 6, 0, 0, 0)] [] (by decide +kernel) rfl (pc' := 74) (ls' := [some (.ref 4), some (.ref 35), some (.int P), some (.int Q), some (.ref v), some (.int (nI i)), some (.int (nI 0 - nI 1))]) (st' := [.int (nI 0 - nI 1)]) (M' := M) rfl ⟨trivial, trivial⟩ ?_
    refine g_if_lt (off := 17) (tgt := 91) (by decide +kernel) (by decide) (fun c1 => ?_) (fun c1 => ?_)
    · refine G.sub (ls' := [some (.ref 4), some (.ref 35), some (.int P), some (.int Q), some (.ref v), some (.int (nI i)), none]) ?_ ⟨rfl, rfl, rfl, rfl, rfl, rfl, trivial⟩
      exact hp M i1 (tb_mono i2 (fun a c _ _ h => by rcases h with h | h; exact Or.inl h; exact Or.inr ⟨h.1, by omega⟩))
    · exact absurd (by decide) c1
  | succ b ih =>
    intro M hb i1 i2
    have hmM : mrg M p q := ⟨(congrFun (i1.2.2 5 (by decide) (by omega)) 3).trans m1, (congrFun (i1.2.2 8 (by decide) (by omega)) 3).trans m2, m3, m4, m5⟩
    refine blk 1 [(.iload 6, 0, 0, 0)] [] (by decide +kernel) rfl (pc' := 74) (ls' := [some (.ref 4), some (.ref 35), some (.int P), some (.int Q), some (.ref v), some (.int (nI i)), some (.int (nI (b + 1) - nI 1))]) (st' := [.int (nI (b + 1) - nI 1)]) (M' := M) rfl ⟨trivial, trivial⟩ ?_
    refine g_if_lt (off := 17) (tgt := 91) (by decide +kernel) (by decide) (fun c1 => ?_) (fun c1 => ?_)
    · have nc1 : b < 0 := (nI_ltI (by omega) (by omega)).mp (by simpa only [nI_add, pk_mul, nI_s1, n0_lit] using c1)
      exact absurd (nI_s1 b ▸ c1) (nI_pos (by omega))
    · have nc1 : 0 ≤ b := by
        have z : ¬ nI b < nI 0 := by simpa only [nI_add, pk_mul, nI_s1, n0_lit] using c1
        rw [nI_ltI (by omega) (by omega)] at z
        omega
      refine blk 1 [(.aload_n 0, 0, 0, 0), (.iload 5, 0, 0, 0), (.iload 6, 0, 0, 0)] [] (by decide +kernel) rfl (pc' := 82) (ls' := [some (.ref 4), some (.ref 35), some (.int P), some (.int Q), some (.ref v), some (.int (nI i)), some (.int (nI (b + 1) - nI 1))]) (st' := [.int (nI (b + 1) - nI 1), .int (nI i), .ref 4]) (M' := M) rfl ⟨trivial, trivial, trivial, trivial⟩ ?_
      rw [nI_s1]
      refine g_callV (s_mfill M (p := p) (q := q) (i := i) (j := b) hmM hi (by omega)) ok_X1_unite_X1_fill (by decide +kernel) rfl (c := 1) rfl (by decide) rfl (Nat.le_of_ble_eq_true rfl) (fun r N h => ?_) rfl
      have hf : filP M p q i b none N := by have e := h.1; rw [e] at h; exact h
      rw [h.1]
      show G _ 85 [some (.ref 4), some (.ref 35), some (.int P), some (.int Q), some (.ref v), some (.int (nI i)), some (.int (nI b))] [] N _
      refine blk 1 [(.iinc 6 (-1), 0, 0, (-1)), (.goto (-16), 72, 0, 0)] [] (by decide +kernel) rfl (pc' := 72) (ls' := [some (.ref 4), some (.ref 35), some (.int P), some (.int Q), some (.ref v), some (.int (nI i)), some (.int (nI b + (-1)))]) (st' := []) (M' := N) rfl ⟨trivial, trivial, trivial⟩ ?_
      refine G.sub (ls' := [some (.ref 4), some (.ref 35), some (.int P), some (.int Q), some (.ref v), some (.int (nI i)), some (.int (nI b - nI 1))]) ?_ ⟨rfl, rfl, rfl, rfl, rfl, rfl, congrArg (fun z => some (Value.int z)) (dec1 _), trivial⟩
      refine ih N (by omega) ⟨hf.2.2.2.1.trans i1.1, hf.2.2.2.2.1.trans i1.2.1, fun z h4 h5 => (hf.2.2.2.2.2 z h4 h5).trans (i1.2.2 z h4 h5)⟩ ?_
      refine tb_mono (tb_step hf (by omega) (fun a c h => ?_) i2) (fun a c _ _ h => ?_)
      · rcases h with h | h
        · exact Or.inl h
        · exact Or.inr ⟨h.1, by omega⟩
      · rcases h with h | h
        · exact Or.inl (Or.inl h)
        · by_cases e : c = b
          · exact Or.inr ⟨h.1, e⟩
          · exact Or.inl (Or.inr ⟨h.1, by omega⟩)
theorem l_uni35 {R : Mem} {P Q : Int32} {v p q : Nat} {Post : Option Value → Mem → Prop} (hm : mrg R p q) (hp : ∀ M, keepT R M → tb M p q (fun _ _ => True) → G mX1_unite 97 [some (.ref 4), some (.ref 35), some (.int P), some (.int Q), some (.ref v), none, none] [] M Post) : ∀ a M, a ≤ p + 1 → keepT R M → tb M p q (fun c _ => a ≤ c) → G mX1_unite 58 [some (.ref 4), some (.ref 35), some (.int P), some (.int Q), some (.ref v), some (.int (nI a - nI 1)), none] [] M Post := by
  have ⟨m1, m2, m3, m4, m5⟩ := hm
  intro a
  induction a with
  | zero =>
    intro M hb i1 i2
    refine blk 1 [(.iload 5, 0, 0, 0)] [] (by decide +kernel) rfl (pc' := 60) (ls' := [some (.ref 4), some (.ref 35), some (.int P), some (.int Q), some (.ref v), some (.int (nI 0 - nI 1)), none]) (st' := [.int (nI 0 - nI 1)]) (M' := M) rfl ⟨trivial, trivial⟩ ?_
    refine g_if_lt (off := 37) (tgt := 97) (by decide +kernel) (by decide) (fun c1 => ?_) (fun c1 => ?_)
    · refine G.sub (ls' := [some (.ref 4), some (.ref 35), some (.int P), some (.int Q), some (.ref v), none, none]) ?_ ⟨rfl, rfl, rfl, rfl, rfl, trivial⟩
      exact hp M i1 (tb_mono i2 (fun a c _ _ _ => by omega))
    · exact absurd (by decide) c1
  | succ a ih =>
    intro M hb i1 i2
    have hmM : mrg M p q := ⟨(congrFun (i1.2.2 5 (by decide) (by omega)) 3).trans m1, (congrFun (i1.2.2 8 (by decide) (by omega)) 3).trans m2, m3, m4, m5⟩
    refine blk 1 [(.iload 5, 0, 0, 0)] [] (by decide +kernel) rfl (pc' := 60) (ls' := [some (.ref 4), some (.ref 35), some (.int P), some (.int Q), some (.ref v), some (.int (nI (a + 1) - nI 1)), none]) (st' := [.int (nI (a + 1) - nI 1)]) (M' := M) rfl ⟨trivial, trivial⟩ ?_
    refine g_if_lt (off := 37) (tgt := 97) (by decide +kernel) (by decide) (fun c1 => ?_) (fun c1 => ?_)
    · have nc1 : a < 0 := (nI_ltI (by omega) (by omega)).mp (by simpa only [nI_add, pk_mul, nI_s1, n0_lit] using c1)
      exact absurd (nI_s1 a ▸ c1) (nI_pos (by omega))
    · have nc1 : 0 ≤ a := by
        have z : ¬ nI a < nI 0 := by simpa only [nI_add, pk_mul, nI_s1, n0_lit] using c1
        rw [nI_ltI (by omega) (by omega)] at z
        omega
      refine blk 1 [(.aload_n 0, 0, 0, 0), (.getfield 18, 1, 2, 0), (.getfield 50, 4, 3, 0), (.istore 6, 0, 0, 0)] [] (by decide +kernel) rfl (pc' := 72) (ls' := [some (.ref 4), some (.ref 35), some (.int P), some (.int Q), some (.ref v), some (.int (nI (a + 1) - nI 1)), some (.int (M 8 3))]) (st' := []) (M' := M) rfl ⟨trivial, rfl, rfl, trivial, trivial⟩ ?_
      refine G.sub (ls' := [some (.ref 4), some (.ref 35), some (.int P), some (.int Q), some (.ref v), some (.int (nI a)), some (.int (nI (q + 1) - nI 1))]) ?_ ⟨rfl, rfl, rfl, rfl, rfl, congrArg (fun z => some (Value.int z)) (nI_s1 a), congrArg (fun z => some (Value.int z)) (hmM.2.1.trans (nI_s1 q).symm), trivial⟩
      refine l_uni235 hm (by omega) (fun N k1 k2 => ?_) (q + 1) M (Nat.le_refl _) i1 (tb_mono i2 (fun c d _ hd h => by rcases h with h | h; exact (by omega); exact absurd h.2 (by omega)))
      refine blk 1 [(.iinc 5 (-1), 0, 0, (-1)), (.goto (-36), 58, 0, 0)] [] (by decide +kernel) rfl (pc' := 58) (ls' := [some (.ref 4), some (.ref 35), some (.int P), some (.int Q), some (.ref v), some (.int (nI a + (-1))), none]) (st' := []) (M' := N) rfl ⟨trivial, trivial, trivial⟩ ?_
      refine G.sub (ls' := [some (.ref 4), some (.ref 35), some (.int P), some (.int Q), some (.ref v), some (.int (nI a - nI 1)), none]) ?_ ⟨rfl, rfl, rfl, rfl, rfl, congrArg (fun z => some (Value.int z)) (dec1 _), trivial⟩
      exact ih N (by omega) k1 (tb_mono k2 (fun c d _ _ h => by rcases Nat.lt_or_ge a c with z | z; exact Or.inl z; exact Or.inr ⟨by omega, by omega⟩))
theorem l_uni237 {R : Mem} {P Q : Int32} {v p q i : Nat} {Post : Option Value → Mem → Prop} (hm : mrg R p q) (hi : i ≤ p) (hp : ∀ M, keepT R M → tb M p q (fun a c => i < a ∨ (a = i ∧ 0 ≤ c)) → G mX1_unite 91 [some (.ref 4), some (.ref 37), some (.int P), some (.int Q), some (.ref v), some (.int (nI i)), none] [] M Post) : ∀ b M, b ≤ q + 1 → keepT R M → tb M p q (fun a c => i < a ∨ (a = i ∧ b ≤ c)) → G mX1_unite 72 [some (.ref 4), some (.ref 37), some (.int P), some (.int Q), some (.ref v), some (.int (nI i)), some (.int (nI b - nI 1))] [] M Post := by
  have ⟨m1, m2, m3, m4, m5⟩ := hm
  intro b
  induction b with
  | zero =>
    intro M hb i1 i2
    refine blk 1 [(.iload 6, 0, 0, 0)] [] (by decide +kernel) rfl (pc' := 74) (ls' := [some (.ref 4), some (.ref 37), some (.int P), some (.int Q), some (.ref v), some (.int (nI i)), some (.int (nI 0 - nI 1))]) (st' := [.int (nI 0 - nI 1)]) (M' := M) rfl ⟨trivial, trivial⟩ ?_
    refine g_if_lt (off := 17) (tgt := 91) (by decide +kernel) (by decide) (fun c1 => ?_) (fun c1 => ?_)
    · refine G.sub (ls' := [some (.ref 4), some (.ref 37), some (.int P), some (.int Q), some (.ref v), some (.int (nI i)), none]) ?_ ⟨rfl, rfl, rfl, rfl, rfl, rfl, trivial⟩
      exact hp M i1 (tb_mono i2 (fun a c _ _ h => by rcases h with h | h; exact Or.inl h; exact Or.inr ⟨h.1, by omega⟩))
    · exact absurd (by decide) c1
  | succ b ih =>
    intro M hb i1 i2
    have hmM : mrg M p q := ⟨(congrFun (i1.2.2 5 (by decide) (by omega)) 3).trans m1, (congrFun (i1.2.2 8 (by decide) (by omega)) 3).trans m2, m3, m4, m5⟩
    refine blk 1 [(.iload 6, 0, 0, 0)] [] (by decide +kernel) rfl (pc' := 74) (ls' := [some (.ref 4), some (.ref 37), some (.int P), some (.int Q), some (.ref v), some (.int (nI i)), some (.int (nI (b + 1) - nI 1))]) (st' := [.int (nI (b + 1) - nI 1)]) (M' := M) rfl ⟨trivial, trivial⟩ ?_
    refine g_if_lt (off := 17) (tgt := 91) (by decide +kernel) (by decide) (fun c1 => ?_) (fun c1 => ?_)
    · have nc1 : b < 0 := (nI_ltI (by omega) (by omega)).mp (by simpa only [nI_add, pk_mul, nI_s1, n0_lit] using c1)
      exact absurd (nI_s1 b ▸ c1) (nI_pos (by omega))
    · have nc1 : 0 ≤ b := by
        have z : ¬ nI b < nI 0 := by simpa only [nI_add, pk_mul, nI_s1, n0_lit] using c1
        rw [nI_ltI (by omega) (by omega)] at z
        omega
      refine blk 1 [(.aload_n 0, 0, 0, 0), (.iload 5, 0, 0, 0), (.iload 6, 0, 0, 0)] [] (by decide +kernel) rfl (pc' := 82) (ls' := [some (.ref 4), some (.ref 37), some (.int P), some (.int Q), some (.ref v), some (.int (nI i)), some (.int (nI (b + 1) - nI 1))]) (st' := [.int (nI (b + 1) - nI 1), .int (nI i), .ref 4]) (M' := M) rfl ⟨trivial, trivial, trivial, trivial⟩ ?_
      rw [nI_s1]
      refine g_callV (s_mfill M (p := p) (q := q) (i := i) (j := b) hmM hi (by omega)) ok_X1_unite_X1_fill (by decide +kernel) rfl (c := 1) rfl (by decide) rfl (Nat.le_of_ble_eq_true rfl) (fun r N h => ?_) rfl
      have hf : filP M p q i b none N := by have e := h.1; rw [e] at h; exact h
      rw [h.1]
      show G _ 85 [some (.ref 4), some (.ref 37), some (.int P), some (.int Q), some (.ref v), some (.int (nI i)), some (.int (nI b))] [] N _
      refine blk 1 [(.iinc 6 (-1), 0, 0, (-1)), (.goto (-16), 72, 0, 0)] [] (by decide +kernel) rfl (pc' := 72) (ls' := [some (.ref 4), some (.ref 37), some (.int P), some (.int Q), some (.ref v), some (.int (nI i)), some (.int (nI b + (-1)))]) (st' := []) (M' := N) rfl ⟨trivial, trivial, trivial⟩ ?_
      refine G.sub (ls' := [some (.ref 4), some (.ref 37), some (.int P), some (.int Q), some (.ref v), some (.int (nI i)), some (.int (nI b - nI 1))]) ?_ ⟨rfl, rfl, rfl, rfl, rfl, rfl, congrArg (fun z => some (Value.int z)) (dec1 _), trivial⟩
      refine ih N (by omega) ⟨hf.2.2.2.1.trans i1.1, hf.2.2.2.2.1.trans i1.2.1, fun z h4 h5 => (hf.2.2.2.2.2 z h4 h5).trans (i1.2.2 z h4 h5)⟩ ?_
      refine tb_mono (tb_step hf (by omega) (fun a c h => ?_) i2) (fun a c _ _ h => ?_)
      · rcases h with h | h
        · exact Or.inl h
        · exact Or.inr ⟨h.1, by omega⟩
      · rcases h with h | h
        · exact Or.inl (Or.inl h)
        · by_cases e : c = b
          · exact Or.inr ⟨h.1, e⟩
          · exact Or.inl (Or.inr ⟨h.1, by omega⟩)
theorem l_uni37 {R : Mem} {P Q : Int32} {v p q : Nat} {Post : Option Value → Mem → Prop} (hm : mrg R p q) (hp : ∀ M, keepT R M → tb M p q (fun _ _ => True) → G mX1_unite 97 [some (.ref 4), some (.ref 37), some (.int P), some (.int Q), some (.ref v), none, none] [] M Post) : ∀ a M, a ≤ p + 1 → keepT R M → tb M p q (fun c _ => a ≤ c) → G mX1_unite 58 [some (.ref 4), some (.ref 37), some (.int P), some (.int Q), some (.ref v), some (.int (nI a - nI 1)), none] [] M Post := by
  have ⟨m1, m2, m3, m4, m5⟩ := hm
  intro a
  induction a with
  | zero =>
    intro M hb i1 i2
    refine blk 1 [(.iload 5, 0, 0, 0)] [] (by decide +kernel) rfl (pc' := 60) (ls' := [some (.ref 4), some (.ref 37), some (.int P), some (.int Q), some (.ref v), some (.int (nI 0 - nI 1)), none]) (st' := [.int (nI 0 - nI 1)]) (M' := M) rfl ⟨trivial, trivial⟩ ?_
    refine g_if_lt (off := 37) (tgt := 97) (by decide +kernel) (by decide) (fun c1 => ?_) (fun c1 => ?_)
    · refine G.sub (ls' := [some (.ref 4), some (.ref 37), some (.int P), some (.int Q), some (.ref v), none, none]) ?_ ⟨rfl, rfl, rfl, rfl, rfl, trivial⟩
      exact hp M i1 (tb_mono i2 (fun a c _ _ _ => by omega))
    · exact absurd (by decide) c1
  | succ a ih =>
    intro M hb i1 i2
    have hmM : mrg M p q := ⟨(congrFun (i1.2.2 5 (by decide) (by omega)) 3).trans m1, (congrFun (i1.2.2 8 (by decide) (by omega)) 3).trans m2, m3, m4, m5⟩
    refine blk 1 [(.iload 5, 0, 0, 0)] [] (by decide +kernel) rfl (pc' := 60) (ls' := [some (.ref 4), some (.ref 37), some (.int P), some (.int Q), some (.ref v), some (.int (nI (a + 1) - nI 1)), none]) (st' := [.int (nI (a + 1) - nI 1)]) (M' := M) rfl ⟨trivial, trivial⟩ ?_
    refine g_if_lt (off := 37) (tgt := 97) (by decide +kernel) (by decide) (fun c1 => ?_) (fun c1 => ?_)
    · have nc1 : a < 0 := (nI_ltI (by omega) (by omega)).mp (by simpa only [nI_add, pk_mul, nI_s1, n0_lit] using c1)
      exact absurd (nI_s1 a ▸ c1) (nI_pos (by omega))
    · have nc1 : 0 ≤ a := by
        have z : ¬ nI a < nI 0 := by simpa only [nI_add, pk_mul, nI_s1, n0_lit] using c1
        rw [nI_ltI (by omega) (by omega)] at z
        omega
      refine blk 1 [(.aload_n 0, 0, 0, 0), (.getfield 18, 1, 2, 0), (.getfield 50, 4, 3, 0), (.istore 6, 0, 0, 0)] [] (by decide +kernel) rfl (pc' := 72) (ls' := [some (.ref 4), some (.ref 37), some (.int P), some (.int Q), some (.ref v), some (.int (nI (a + 1) - nI 1)), some (.int (M 8 3))]) (st' := []) (M' := M) rfl ⟨trivial, rfl, rfl, trivial, trivial⟩ ?_
      refine G.sub (ls' := [some (.ref 4), some (.ref 37), some (.int P), some (.int Q), some (.ref v), some (.int (nI a)), some (.int (nI (q + 1) - nI 1))]) ?_ ⟨rfl, rfl, rfl, rfl, rfl, congrArg (fun z => some (Value.int z)) (nI_s1 a), congrArg (fun z => some (Value.int z)) (hmM.2.1.trans (nI_s1 q).symm), trivial⟩
      refine l_uni237 hm (by omega) (fun N k1 k2 => ?_) (q + 1) M (Nat.le_refl _) i1 (tb_mono i2 (fun c d _ hd h => by rcases h with h | h; exact (by omega); exact absurd h.2 (by omega)))
      refine blk 1 [(.iinc 5 (-1), 0, 0, (-1)), (.goto (-36), 58, 0, 0)] [] (by decide +kernel) rfl (pc' := 58) (ls' := [some (.ref 4), some (.ref 37), some (.int P), some (.int Q), some (.ref v), some (.int (nI a + (-1))), none]) (st' := []) (M' := N) rfl ⟨trivial, trivial, trivial⟩ ?_
      refine G.sub (ls' := [some (.ref 4), some (.ref 37), some (.int P), some (.int Q), some (.ref v), some (.int (nI a - nI 1)), none]) ?_ ⟨rfl, rfl, rfl, rfl, rfl, congrArg (fun z => some (Value.int z)) (dec1 _), trivial⟩
      exact ih N (by omega) k1 (tb_mono k2 (fun c d _ _ h => by rcases Nat.lt_or_ge a c with z | z; exact Or.inl z; exact Or.inr ⟨by omega, by omega⟩))
