/-! Row.spread -/
/-- how many of the first k are not g -/
def ncnt (f : Nat → Int32) (g : Int32) : Nat → Nat
  | 0 => 0
  | k + 1 => ncnt f g k + if f k = g then 0 else 1
theorem ncnt_le (f : Nat → Int32) (g : Int32) (k : Nat) : ncnt f g k ≤ k := by
  induction k with
  | zero => exact Nat.le_refl 0
  | succ k ih => rw [ncnt]; split <;> omega
theorem ncnt_mono (f : Nat → Int32) (g : Int32) {j k : Nat} (h : j ≤ k) : ncnt f g j ≤ ncnt f g k := by
  induction k with
  | zero => rw [Nat.le_zero.mp h]; exact Nat.le_refl _
  | succ k ih =>
    rcases Nat.lt_or_ge k j with h1 | h1
    · rw [show j = k + 1 by omega]; exact Nat.le_refl _
    · rw [ncnt]; have := ih h1; omega
theorem nI_m1 (n : Nat) : nI (n + 1) + (-1) = nI n := pk_m1 n
theorem dec1 (x : Int32) : x + (-1) = x - nI 1 := by rw [n1_lit, Int32.sub_eq_add_neg]
def sprP (M : Mem) (t n : Nat) (g : Int32) : Option Value → Mem → Prop := fun r N => r = none ∧ N t 1 = nI n ∧ (∀ j, j < n → N (t + 5) j = if M 15 j = g then -1 else M (t + 5) (ncnt (M 15) g j)) ∧ ∀ z, z ≠ t → z ≠ t + 5 → N z = M z
theorem l_spread {M0 : Mem} {t n : Nat} {g : Int32} (hk : kd t = 2) (hn : n ≤ 60) (hl : n ≤ al (t + 5)) (ht : t + 5 < 96) (h15 : t + 5 ≠ 15) : ∀ k M, k ≤ n → (∀ z, z ≠ t + 5 → M z = M0 z) → (∀ j, j < k → M (t + 5) j = M0 (t + 5) j) → (∀ j, k ≤ j → j < n → M (t + 5) j = if M0 15 j = g then -1 else M0 (t + 5) (ncnt (M0 15) g j)) → G mX2_spread 13 [some (.ref t), some (.ref 15), some (.int (nI n)), some (.int g), some (.int (nI (ncnt (M0 15) g k) - nI 1)), some (.int (nI k - nI 1))] [] M (sprP M0 t n g) := by
  intro k
  induction k with
  | zero =>
    intro M hkn i1 i2 i3
    refine blk 2 [(.iload 5, 0, 0, 0)] [] (by decide +kernel) rfl (pc' := 15) (ls' := [some (.ref t), some (.ref 15), some (.int (nI n)), some (.int g), some (.int (nI (ncnt (M0 15) g 0) - nI 1)), some (.int (nI 0 - nI 1))]) (st' := [.int (nI 0 - nI 1)]) (M' := M) rfl ⟨trivial, trivial⟩ ?_
    refine g_if_lt (off := 45) (tgt := 60) (by decide +kernel) (by decide) (fun c1 => ?_) (fun c1 => ?_)
    · refine blk 2 [(.aload_n 0, 0, 0, 0), (.iload_n 2, 0, 0, 0), (.putfield 15, 2, 1, 0)] [] (by decide +kernel) rfl (pc' := 65) (ls' := [some (.ref t), some (.ref 15), some (.int (nI n)), some (.int g), some (.int (nI (ncnt (M0 15) g 0) - nI 1)), some (.int (nI 0 - nI 1))]) (st' := []) (M' := stm M t 1 (nI n)) rfl ⟨trivial, trivial, (by assumption), trivial⟩ ?_
      refine g_return (by decide +kernel) rfl ⟨rfl, ?_, fun j hj => ?_, fun z h1 h2 => ?_⟩
      · rw [stm_self]
      · rw [stm_ne (by omega)]; exact i3 j (Nat.zero_le j) hj
      · rw [stm_ne h1]; exact i1 z h2
    · exact absurd (by decide) c1
  | succ k ih =>
    intro M hkn i1 i2 i3
    refine blk 2 [(.iload 5, 0, 0, 0)] [] (by decide +kernel) rfl (pc' := 15) (ls' := [some (.ref t), some (.ref 15), some (.int (nI n)), some (.int g), some (.int (nI (ncnt (M0 15) g (k + 1)) - nI 1)), some (.int (nI (k + 1) - nI 1))]) (st' := [.int (nI (k + 1) - nI 1)]) (M' := M) rfl ⟨trivial, trivial⟩ ?_
    refine g_if_lt (off := 45) (tgt := 60) (by decide +kernel) (by decide) (fun c1 => ?_) (fun c1 => ?_)
    · have nc1 : k < 0 := (nI_ltI (by omega) (by omega)).mp (by simpa only [nI_add, pk_mul, nI_s1, n0_lit] using c1)
      exact absurd (nI_s1 k ▸ c1) (nI_pos (by omega))
    · have nc1 : 0 ≤ k := by
        have z : ¬ nI k < nI 0 := by simpa only [nI_add, pk_mul, nI_s1, n0_lit] using c1
        rw [nI_ltI (by omega) (by omega)] at z
        omega
      refine blk 2 [(.aload_n 1, 0, 0, 0), (.iload 5, 0, 0, 0), (.iaload, 0, 0, 0), (.iload_n 3, 0, 0, 0)] [k] (by decide +kernel) rfl (pc' := 23) (ls' := [some (.ref t), some (.ref 15), some (.int (nI n)), some (.int g), some (.int (nI (ncnt (M0 15) g (k + 1)) - nI 1)), some (.int (nI (k + 1) - nI 1))]) (st' := [.int g, .int (M 15 k)]) (M' := M) rfl ⟨trivial, trivial, ⟨(by simp only [nI_add, pk_mul, nI_s1]), (by show _ < 60; omega)⟩, trivial, trivial⟩ ?_
      refine g_icmp_ne (off := 14) (tgt := 37) (by decide +kernel) (by decide) (fun c2 => ?_) (fun c2 => ?_)
      · have e5 : ncnt (M0 15) g (k + 1) = ncnt (M0 15) g k + 1 := by rw [ncnt, if_neg (by rw [← i1 15 (by omega)]; exact c2)]
        refine blk 2 [(.aload_n 0, 0, 0, 0), (.getfield 9, 2, 0, 0), (.iload 5, 0, 0, 0), (.aload_n 0, 0, 0, 0), (.getfield 9, 2, 0, 0), (.iload 4, 0, 0, 0), (.iaload, 0, 0, 0), (.iastore, 0, 0, 0), (.iinc 4 (-1), 0, 0, (-1)), (.iinc 5 (-1), 0, 0, (-1)), (.goto (-44), 13, 0, 0)] [ncnt (M0 15) g k, k] (by decide +kernel) rfl (pc' := 13) (ls' := [some (.ref t), some (.ref 15), some (.int (nI n)), some (.int g), some (.int (nI (ncnt (M0 15) g (k + 1)) - nI 1 + (-1))), some (.int (nI (k + 1) - nI 1 + (-1)))]) (st' := []) (M' := stm M (t + 5) k (M (t + 5) (ncnt (M0 15) g k))) rfl ⟨trivial, (by assumption), trivial, trivial, (by assumption), trivial, ⟨(by rw [e5, nI_s1]), (by have := ncnt_le (M0 15) g k; omega)⟩, ⟨(by simp only [nI_add, pk_mul, nI_s1]), (by omega), by omega⟩, trivial, trivial, trivial, trivial⟩ ?_
        refine G.sub (ls' := [some (.ref t), some (.ref 15), some (.int (nI n)), some (.int g), some (.int (nI (ncnt (M0 15) g k) - nI 1)), some (.int (nI k - nI 1))]) ?_ ⟨rfl, rfl, rfl, rfl, congrArg (fun z => some (Value.int z)) (by rw [dec1, e5, nI_s1]), congrArg (fun z => some (Value.int z)) (by rw [nI_s1, dec1]), trivial⟩
        refine ih _ (by omega) (fun z hz => ?_) (fun j hj => ?_) (fun j h1 h2 => ?_)
        · rw [stm_ne hz]; exact i1 z hz
        · rw [stm_off (by omega)]; exact i2 j (by omega)
        · by_cases e : j = k
          · subst e
            rw [stm_self]
            rw [if_neg (by rw [← i1 15 (by omega)]; exact c2)]; exact i2 _ (by have := ncnt_le (M0 15) g j; omega)
          · rw [stm_off e]; exact i3 j (by omega) h2
      · refine blk 2 [(.aload_n 0, 0, 0, 0), (.getfield 9, 2, 0, 0), (.iload 5, 0, 0, 0), (.iconst (-1), 0, 0, (-1)), (.iastore, 0, 0, 0), (.goto (20), 54, 0, 0), (.iinc 5 (-1), 0, 0, (-1)), (.goto (-44), 13, 0, 0)] [k] (by decide +kernel) rfl (pc' := 13) (ls' := [some (.ref t), some (.ref 15), some (.int (nI n)), some (.int g), some (.int (nI (ncnt (M0 15) g (k + 1)) - nI 1)), some (.int (nI (k + 1) - nI 1 + (-1)))]) (st' := []) (M' := stm M (t + 5) k (-1)) rfl ⟨trivial, (by assumption), trivial, trivial, ⟨(by simp only [nI_add, pk_mul, nI_s1]), (by omega), by omega⟩, trivial, trivial, trivial, trivial⟩ ?_
        have e5 : ncnt (M0 15) g (k + 1) = ncnt (M0 15) g k := by rw [ncnt, if_pos (by rw [← i1 15 (by omega)]; exact c2)]; omega
        refine G.sub (ls' := [some (.ref t), some (.ref 15), some (.int (nI n)), some (.int g), some (.int (nI (ncnt (M0 15) g k) - nI 1)), some (.int (nI k - nI 1))]) ?_ ⟨rfl, rfl, rfl, rfl, congrArg (fun z => some (Value.int z)) (by rw [e5]), congrArg (fun z => some (Value.int z)) (by rw [nI_s1, dec1]), trivial⟩
        refine ih _ (by omega) (fun z hz => ?_) (fun j hj => ?_) (fun j h1 h2 => ?_)
        · rw [stm_ne hz]; exact i1 z hz
        · rw [stm_off (by omega)]; exact i2 j (by omega)
        · by_cases e : j = k
          · subst e
            rw [stm_self]
            rw [if_pos (by rw [← i1 15 (by omega)]; exact c2)]
          · rw [stm_off e]; exact i3 j (by omega) h2
theorem s_rspread (M : Mem) {t n w : Nat} {g : Int32} (hk : kd t = 2) (hw : M t 1 = nI w) (hc : ncnt (M 15) g n = w) (hn : n ≤ 60) (hl : n ≤ al (t + 5)) (ht : t + 5 < 96) (h15 : t + 5 ≠ 15) : Spec mX2_spread [.ref t, .ref 15, .int (nI n), .int g] M (sprP M t n g) := by
  refine Spec.of (by decide) (by simp [Value.category]) (Nat.le_of_ble_eq_true rfl) ?_
  refine blk 2 [(.aload_n 0, 0, 0, 0), (.getfield 15, 2, 1, 0), (.iconst 1, 0, 0, (nI 1)), (.isub, 0, 0, 0), (.istore 4, 0, 0, 0), (.iload_n 2, 0, 0, 0), (.iconst 1, 0, 0, (nI 1)), (.isub, 0, 0, 0), (.istore 5, 0, 0, 0)] [] (by decide +kernel) rfl (pc' := 13) (ls' := [some (.ref t), some (.ref 15), some (.int (nI n)), some (.int g), some (.int ((M t 1) - (nI 1))), some (.int ((nI n) - (nI 1)))]) (st' := []) (M' := M) rfl ⟨trivial, (by assumption), trivial, trivial, trivial, trivial, trivial, trivial, trivial, trivial⟩ ?_
  rw [hw, ← hc]
  exact l_spread hk hn hl ht h15 n M (Nat.le_refl n) (fun _ _ => rfl) (fun _ _ => rfl) (fun j h1 h2 => absurd h1 (by omega))
