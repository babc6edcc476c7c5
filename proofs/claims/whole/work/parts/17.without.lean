/-! sheets: copyWithout -/
def bcnt (p : Nat → Bool) : Nat → Nat
  | 0 => 0
  | k + 1 => bcnt p k + if p k then 1 else 0
theorem bcnt_le (p : Nat → Bool) (k : Nat) : bcnt p k ≤ k := by
  induction k with
  | zero => exact Nat.le_refl 0
  | succ k ih => rw [bcnt]; split <;> omega
theorem bcnt_mono (p : Nat → Bool) {j k : Nat} (h : j ≤ k) : bcnt p j ≤ bcnt p k := by
  induction k with
  | zero => rw [Nat.le_zero.mp h]; exact Nat.le_refl _
  | succ k ih =>
    rcases Nat.lt_or_ge k j with h1 | h1
    · rw [show j = k + 1 by omega]; exact Nat.le_refl _
    · rw [bcnt]; have := ih h1; omega
theorem bcnt_lt (p : Nat → Bool) {j k : Nat} (h : j < k) (hp : p j = true) : bcnt p j < bcnt p k := by
  have h1 := bcnt_mono p (show j + 1 ≤ k from h)
  rw [bcnt, if_pos hp] at h1
  omega
theorem anyB_congr {p q : Nat → Bool} {n : Nat} (h : ∀ i, i < n → p i = q i) : anyB p n = anyB q n := by
  induction n with
  | zero => rfl
  | succ n ih => rw [anyB, anyB, ih (fun i hi => h i (by omega)), h n (by omega)]
/-- the columns in which a word of S has a letter -/
def keepB (M : Mem) (B : Nat) (S : Int32) : Nat → Bool := fun k => anyB (hasF M B S k) 5
def cpwI (M N : Mem) (B C : Nat) (S : Int32) (k : Nat) : Prop := ∀ a, a < 5 → ¬ hb S a = 0 → ∀ j, j < k → keepB M C S j = true → N (B + a + 5) (bcnt (keepB M C S) j) = M (C + a + 5) j
theorem bI_ne {b : Bool} (h : ¬ bI b = 0) : b = true := by cases b <;> simp_all [bI]
theorem bI_eq {b : Bool} (h : bI b = 0) : b = false := by cases b <;> simp_all [bI]
theorem l_cpw235 {M0 : Mem} {S : Int32} {k : Nat} {Post : Option Value → Mem → Prop} (hk : k < 60) (hp : ∀ M, (∀ z, (∀ a, a < 5 → ¬ hb S a = 0 → z ≠ 51 + a + 5) → M z = M0 z) → cpwI M0 M 51 61 S (k + 1) → G mX3_copyWithout 84 [some (.ref 35), some (.ref 37), some (.int S), some (.int (nI (bcnt (keepB M0 61 S) k + 1))), some (.int (nI k)), none] [] M Post) : ∀ d i M, d = 5 - i → i ≤ 5 → (∀ z, (∀ a, a < 5 → ¬ hb S a = 0 → z ≠ 51 + a + 5) → M z = M0 z) → cpwI M0 M 51 61 S k → (∀ a, a < i → ¬ hb S a = 0 → M (51 + a + 5) (bcnt (keepB M0 61 S) k) = M0 (61 + a + 5) k) → G mX3_copyWithout 35 [some (.ref 35), some (.ref 37), some (.int S), some (.int (nI (bcnt (keepB M0 61 S) k))), some (.int (nI k)), some (.int (nI i))] [] M Post := by
  intro d
  induction d using Nat.strongRecOn with
  | ind d ih =>
    intro i M hd hj j1 j2 j3
    refine blk 3 [(.iload 5, 0, 0, 0), (.iconst 5, 0, 0, (nI 5))] [] (by decide +kernel) rfl (pc' := 38) (ls' := [some (.ref 35), some (.ref 37), some (.int S), some (.int (nI (bcnt (keepB M0 61 S) k))), some (.int (nI k)), some (.int (nI i))]) (st' := [.int (nI 5), .int (nI i)]) (M' := M) rfl ⟨trivial, trivial, trivial⟩ ?_
    refine g_icmp_ge (off := 43) (tgt := 81) (by decide +kernel) (by decide) (fun c1 => ?_) (fun c1 => ?_)
    · have nc1 : 5 ≤ i := (nI_leI (by omega) (by omega)).mp (by simpa only [nI_add, pk_mul, nI_s1, n0_lit] using c1)
      refine blk 3 [(.iinc 3 1, 0, 0, (nI 1))] [] (by decide +kernel) rfl (pc' := 84) (ls' := [some (.ref 35), some (.ref 37), some (.int S), some (.int (nI (bcnt (keepB M0 61 S) k) + nI 1)), some (.int (nI k)), some (.int (nI i))]) (st' := []) (M' := M) rfl ⟨trivial, trivial⟩ ?_
      have e : i = 5 := by omega
      subst e
      refine G.sub (ls' := [some (.ref 35), some (.ref 37), some (.int S), some (.int (nI (bcnt (keepB M0 61 S) k + 1))), some (.int (nI k)), none]) ?_ ⟨rfl, rfl, rfl, congrArg (fun z => some (Value.int z)) (by simp only [nI_add, nI_s1]), rfl, trivial⟩
      refine hp M j1 (fun a h1 h2 j h3 h4 => ?_)
      by_cases e : j = k
      · subst e; exact j3 a h1 h2
      · exact j2 a h1 h2 j (by omega) h4
    · have nc1 : i < 5 := by
        have z : ¬ nI 5 ≤ nI i := by simpa only [nI_add, pk_mul, nI_s1, n0_lit] using c1
        rw [nI_leI (by omega) (by omega)] at z
        omega
      refine blk 3 [(.iload_n 2, 0, 0, 0), (.iload 5, 0, 0, 0)] [] (by decide +kernel) rfl (pc' := 44) (ls' := [some (.ref 35), some (.ref 37), some (.int S), some (.int (nI (bcnt (keepB M0 61 S) k))), some (.int (nI k)), some (.int (nI i))]) (st' := [.int (nI i), .int S]) (M' := M) rfl ⟨trivial, trivial, trivial⟩ ?_
      refine g_callN (index := 28) (s_holds _ S i) rfl (by decide) ⟨ok_X6_holds.1, ok_X6_holds.2.1, ok_X6_holds.2.2.1, ok_X6_holds.2.2.2, by decide +kernel, by decide +kernel⟩ (by decide +kernel) rfl (Nat.le_of_ble_eq_true rfl) (fun r M' h => ?_) rfl
      obtain ⟨hr, hM⟩ := h
      rw [hr, hM]
      show G _ 47 [some (.ref 35), some (.ref 37), some (.int S), some (.int (nI (bcnt (keepB M0 61 S) k))), some (.int (nI k)), some (.int (nI i))] [.int (hb S i)] M _
      refine g_if_eq (off := 28) (tgt := 75) (by decide +kernel) (by decide) (fun c2 => ?_) (fun c2 => ?_)
      · refine blk 3 [(.iinc 5 1, 0, 0, (nI 1)), (.goto (-43), 35, 0, 0)] [] (by decide +kernel) rfl (pc' := 35) (ls' := [some (.ref 35), some (.ref 37), some (.int S), some (.int (nI (bcnt (keepB M0 61 S) k))), some (.int (nI k)), some (.int (nI i + nI 1))]) (st' := []) (M' := M) rfl ⟨trivial, trivial, trivial⟩ ?_
        refine G.sub (ls' := [some (.ref 35), some (.ref 37), some (.int S), some (.int (nI (bcnt (keepB M0 61 S) k))), some (.int (nI k)), some (.int (nI (i + 1)))]) ?_ ⟨rfl, rfl, rfl, rfl, rfl, congrArg (fun z => some (Value.int z)) (by simp only [nI_add, nI_s1]), trivial⟩
        exact ih (d - 1) (by omega) (i + 1) _ (by omega) (by omega) j1 j2 (fun a h1 h2 => by
                by_cases e : a = i
                · subst e; exact absurd c2 h2
                · exact j3 a (by omega) h2)
      · refine blk 3 [(.aload_n 0, 0, 0, 0), (.getfield 11, 3, 0, 0), (.iload 5, 0, 0, 0), (.aaload, 0, 0, 0), (.getfield 31, 2, 0, 0), (.iload_n 3, 0, 0, 0), (.aload_n 1, 0, 0, 0), (.getfield 11, 3, 0, 0), (.iload 5, 0, 0, 0), (.aaload, 0, 0, 0), (.getfield 31, 2, 0, 0), (.iload 4, 0, 0, 0), (.iaload, 0, 0, 0), (.iastore, 0, 0, 0), (.iinc 5 1, 0, 0, (nI 1)), (.goto (-43), 35, 0, 0)] [i, i, k, bcnt (keepB M0 61 S) k] (by decide +kernel) rfl (pc' := 35) (ls' := [some (.ref 35), some (.ref 37), some (.int S), some (.int (nI (bcnt (keepB M0 61 S) k))), some (.int (nI k)), some (.int (nI i + nI 1))]) (st' := []) (M' := stm M (51 + i + 5) (bcnt (keepB M0 61 S) k) (M (61 + i + 5) k)) rfl ⟨trivial, rfl, trivial, ⟨rfl, (by show _ < 5; omega)⟩, (kd51 (by omega)), trivial, trivial, rfl, trivial, ⟨rfl, (by show _ < 5; omega)⟩, (kd61 (by omega)), trivial, ⟨rfl, (Nat.lt_of_lt_of_eq (by omega : k < 60) (al66 (i := i) (by omega)).symm)⟩, ⟨rfl, (Nat.lt_of_lt_of_eq (by have := bcnt_le (keepB M0 61 S) k; omega : bcnt (keepB M0 61 S) k < 60) (al56 (i := i) (by omega)).symm), by show 51 + i + 5 < 96; omega⟩, trivial, trivial, trivial⟩ ?_
        refine G.sub (ls' := [some (.ref 35), some (.ref 37), some (.int S), some (.int (nI (bcnt (keepB M0 61 S) k))), some (.int (nI k)), some (.int (nI (i + 1)))]) ?_ ⟨rfl, rfl, rfl, rfl, rfl, congrArg (fun z => some (Value.int z)) (by simp only [nI_add, nI_s1]), trivial⟩
        refine ih (d - 1) (by omega) (i + 1) _ (by omega) (by omega) (fun z hz => ?_) (fun a h1 h2 j h3 h4 => ?_) (fun a h1 h2 => ?_)
        · rw [stm_ne (hz i (by omega) c2)]; exact j1 z hz
        · have hlt := bcnt_lt _ h3 h4
          by_cases e : a = i
          · subst e; rw [stm_off (by omega)]; exact j2 a h1 h2 j h3 h4
          · rw [stm_ne (by omega)]; exact j2 a h1 h2 j h3 h4
        · by_cases e : a = i
          · subst e; rw [stm_self, j1 (61 + a + 5) (fun b _ _ => by omega)]
          · rw [stm_ne (by omega)]; exact j3 a (by omega) h2
theorem l_cpw335 {M1 : Mem} {S : Int32} {v : Nat} {Post : Option Value → Mem → Prop} (hp : ∀ M, (∀ z, (∀ a, a < 5 → z ≠ 51 + a) → M z = M1 z) → (∀ a, a < 5 → M (51 + a) 1 = nI v) → Post none M) : ∀ d i M, d = 5 - i → i ≤ 5 → (∀ z, (∀ a, a < i → z ≠ 51 + a) → M z = M1 z) → (∀ a, a < i → M (51 + a) 1 = nI v) → G mX3_copyWithout 93 [some (.ref 35), some (.ref 37), some (.int S), some (.int (nI v)), some (.int (nI i)), none] [] M Post := by
  intro d
  induction d using Nat.strongRecOn with
  | ind d ih =>
    intro i M hd hj j1 j2
    refine blk 3 [(.iload 4, 0, 0, 0), (.iconst 5, 0, 0, (nI 5))] [] (by decide +kernel) rfl (pc' := 96) (ls' := [some (.ref 35), some (.ref 37), some (.int S), some (.int (nI v)), some (.int (nI i)), none]) (st' := [.int (nI 5), .int (nI i)]) (M' := M) rfl ⟨trivial, trivial, trivial⟩ ?_
    refine g_icmp_ge (off := 20) (tgt := 116) (by decide +kernel) (by decide) (fun c1 => ?_) (fun c1 => ?_)
    · have nc1 : 5 ≤ i := (nI_leI (by omega) (by omega)).mp (by simpa only [nI_add, pk_mul, nI_s1, n0_lit] using c1)
      have e : i = 5 := by omega
      subst e
      exact g_return (by decide +kernel) rfl (hp M j1 j2)
    · have nc1 : i < 5 := by
        have z : ¬ nI 5 ≤ nI i := by simpa only [nI_add, pk_mul, nI_s1, n0_lit] using c1
        rw [nI_leI (by omega) (by omega)] at z
        omega
      refine blk 3 [(.aload_n 0, 0, 0, 0), (.getfield 11, 3, 0, 0), (.iload 4, 0, 0, 0), (.aaload, 0, 0, 0), (.iload_n 3, 0, 0, 0), (.putfield 20, 2, 1, 0), (.iinc 4 1, 0, 0, (nI 1)), (.goto (-20), 93, 0, 0)] [i] (by decide +kernel) rfl (pc' := 93) (ls' := [some (.ref 35), some (.ref 37), some (.int S), some (.int (nI v)), some (.int (nI i + nI 1)), none]) (st' := []) (M' := stm M (51 + i) 1 (nI v)) rfl ⟨trivial, rfl, trivial, ⟨rfl, (by show _ < 5; omega)⟩, trivial, (kd51 (by omega)), trivial, trivial, trivial⟩ ?_
      refine G.sub (ls' := [some (.ref 35), some (.ref 37), some (.int S), some (.int (nI v)), some (.int (nI (i + 1))), none]) ?_ ⟨rfl, rfl, rfl, rfl, congrArg (fun z => some (Value.int z)) (by simp only [nI_add, nI_s1]), trivial⟩
      refine ih (d - 1) (by omega) (i + 1) _ (by omega) (by omega) (fun z hz => ?_) (fun a h1 => ?_)
      · rw [stm_ne (hz i (by omega))]; exact j1 z (fun a h => hz a (by omega))
      · by_cases e : a = i
        · subst e; rw [stm_self]
        · rw [stm_ne (by omega)]; exact j2 a (by omega)
def cpwP (M : Mem) (B C : Nat) (S : Int32) (w : Nat) : Option Value → Mem → Prop := fun r N => r = none ∧ (∀ a, a < 5 → N (B + a) 1 = nI (bcnt (keepB M C S) w)) ∧ cpwI M N B C S w ∧ ∀ z, (∀ a, a < 5 → z ≠ B + a ∧ z ≠ B + a + 5) → N z = M z
theorem l_cpw35 {M0 : Mem} {S : Int32} {Wd0 : Nat} (hw : Wd0 ≤ 60) (hW0 : M0 61 1 = nI Wd0) : ∀ d k M, d = Wd0 - k → k ≤ Wd0 → (∀ z, (∀ a, a < 5 → ¬ hb S a = 0 → z ≠ 51 + a + 5) → M z = M0 z) → cpwI M0 M 51 61 S k → G mX3_copyWithout 5 [some (.ref 35), some (.ref 37), some (.int S), some (.int (nI (bcnt (keepB M0 61 S) k))), some (.int (nI k)), none] [] M (cpwP M0 51 61 S Wd0) := by
  intro d
  induction d using Nat.strongRecOn with
  | ind d ih =>
    intro k M hd hj j1 j2
    have hW : M 61 1 = nI Wd0 := by rw [j1 61 (fun a _ _ => by omega)]; exact hW0
    refine blk 3 [(.iload 4, 0, 0, 0), (.aload_n 1, 0, 0, 0), (.getfield 11, 3, 0, 0), (.iconst 0, 0, 0, (nI 0)), (.aaload, 0, 0, 0), (.getfield 20, 2, 1, 0)] [0] (by decide +kernel) rfl (pc' := 16) (ls' := [some (.ref 35), some (.ref 37), some (.int S), some (.int (nI (bcnt (keepB M0 61 S) k))), some (.int (nI k)), none]) (st' := [.int (M 61 1), .int (nI k)]) (M' := M) rfl ⟨trivial, trivial, rfl, trivial, ⟨rfl, (by decide)⟩, rfl, trivial⟩ ?_
    refine g_icmp_ge (off := 74) (tgt := 90) (by decide +kernel) (by decide) (fun c1 => ?_) (fun c1 => ?_)
    · have nc1 : Wd0 ≤ k := (nI_leI (by omega) (by omega)).mp (by simpa only [hW, nI_add, pk_mul, nI_s1, n0_lit] using c1)
      refine blk 3 [(.iconst 0, 0, 0, (nI 0)), (.istore 4, 0, 0, 0)] [] (by decide +kernel) rfl (pc' := 93) (ls' := [some (.ref 35), some (.ref 37), some (.int S), some (.int (nI (bcnt (keepB M0 61 S) k))), some (.int (nI 0)), none]) (st' := []) (M' := M) rfl ⟨trivial, trivial, trivial⟩ ?_
      have e : k = Wd0 := by omega
      subst e
      refine l_cpw335 (M1 := M) (fun N h1 h2 => ⟨rfl, h2, fun a b1 b2 j b3 b4 => ?_, fun z hz => ?_⟩) _ 0 M rfl (by omega) (fun z _ => rfl) (fun a h => absurd h (by omega))
      · rw [h1 _ (fun c _ => by omega)]; exact j2 a b1 b2 j b3 b4
      · rw [h1 z (fun a h => (hz a h).1)]; exact j1 z (fun a h _ => (hz a h).2)
    · have nc1 : k < Wd0 := by
        have z : ¬ nI Wd0 ≤ nI k := by simpa only [hW, nI_add, pk_mul, nI_s1, n0_lit] using c1
        rw [nI_leI (by omega) (by omega)] at z
        omega
      refine blk 3 [(.aload_n 1, 0, 0, 0), (.iload 4, 0, 0, 0), (.iload_n 2, 0, 0, 0)] [] (by decide +kernel) rfl (pc' := 23) (ls' := [some (.ref 35), some (.ref 37), some (.int S), some (.int (nI (bcnt (keepB M0 61 S) k))), some (.int (nI k)), none]) (st' := [.int S, .int (nI k), .ref 37]) (M' := M) rfl ⟨trivial, trivial, trivial, trivial⟩ ?_
      refine g_callV (s_has37 M S (k := k) (by omega)) ok_X3_copyWithout_X3_hasLetter (by decide +kernel) rfl (c := 3) rfl (by decide) rfl (Nat.le_of_ble_eq_true rfl) (fun r M' h => ?_) rfl
      obtain ⟨hr, hM⟩ := h
      rw [hr, hM]
      show G _ 26 [some (.ref 35), some (.ref 37), some (.int S), some (.int (nI (bcnt (keepB M0 61 S) k))), some (.int (nI k)), none] [.int (bI (anyB (hasF M 61 S k) 5))] M _
      rw [show anyB (hasF M 61 S k) 5 = keepB M0 61 S k from anyB_congr (fun i hi => by simp only [hasF]; rw [j1 (61 + i + 5) (fun a _ _ => by omega)])]
      refine g_if_ne (off := 6) (tgt := 32) (by decide +kernel) (by decide) (fun c2 => ?_) (fun c2 => ?_)
      · refine blk 3 [(.iconst 0, 0, 0, (nI 0)), (.istore 5, 0, 0, 0)] [] (by decide +kernel) rfl (pc' := 35) (ls' := [some (.ref 35), some (.ref 37), some (.int S), some (.int (nI (bcnt (keepB M0 61 S) k))), some (.int (nI k)), some (.int (nI 0))]) (st' := []) (M' := M) rfl ⟨trivial, trivial, trivial⟩ ?_
        refine l_cpw235 (by omega) (fun N h1 h2 => ?_) _ 0 M rfl (by omega) j1 j2 (fun a h => absurd h (by omega))
        have ep : bcnt (keepB M0 61 S) (k + 1) = bcnt (keepB M0 61 S) k + 1 := by rw [bcnt, if_pos (bI_ne c2)]
        rw [← ep]
        refine blk 3 [(.iinc 4 1, 0, 0, (nI 1)), (.goto (-82), 5, 0, 0)] [] (by decide +kernel) rfl (pc' := 5) (ls' := [some (.ref 35), some (.ref 37), some (.int S), some (.int (nI (bcnt (keepB M0 61 S) (k + 1)))), some (.int (nI k + nI 1)), none]) (st' := []) (M' := N) rfl ⟨trivial, trivial, trivial⟩ ?_
        refine G.sub (ls' := [some (.ref 35), some (.ref 37), some (.int S), some (.int (nI (bcnt (keepB M0 61 S) (k + 1)))), some (.int (nI (k + 1))), none]) ?_ ⟨rfl, rfl, rfl, rfl, congrArg (fun z => some (Value.int z)) (nI_add _ _), trivial⟩
        exact ih (d - 1) (by omega) (k + 1) N (by omega) (by omega) h1 h2
      · refine blk 3 [(.goto (55), 84, 0, 0), (.iinc 4 1, 0, 0, (nI 1)), (.goto (-82), 5, 0, 0)] [] (by decide +kernel) rfl (pc' := 5) (ls' := [some (.ref 35), some (.ref 37), some (.int S), some (.int (nI (bcnt (keepB M0 61 S) k))), some (.int (nI k + nI 1)), none]) (st' := []) (M' := M) rfl ⟨trivial, trivial, trivial, trivial⟩ ?_
        have ep : bcnt (keepB M0 61 S) (k + 1) = bcnt (keepB M0 61 S) k := by rw [bcnt, if_neg (by rw [bI_eq c2]; decide)]; omega
        refine G.sub (ls' := [some (.ref 35), some (.ref 37), some (.int S), some (.int (nI (bcnt (keepB M0 61 S) (k + 1)))), some (.int (nI (k + 1))), none]) ?_ ⟨rfl, rfl, rfl, congrArg (fun z => some (Value.int z)) (by rw [ep]), congrArg (fun z => some (Value.int z)) (by simp only [nI_add, nI_s1]), trivial⟩
        refine ih (d - 1) (by omega) (k + 1) M (by omega) (by omega) j1 (fun a h1 h2 j h3 h4 => ?_)
        by_cases e : j = k
        · subst e; rw [bI_eq c2] at h4; cases h4
        · exact j2 a h1 h2 j (by omega) h4
theorem s_cpw35 (M : Mem) (S : Int32) {Wd0 : Nat} (hw : Wd0 ≤ 60) (hW : M 61 1 = nI Wd0) : Spec mX3_copyWithout [.ref 35, .ref 37, .int S] M (cpwP M 51 61 S Wd0) := by
  refine Spec.of (by decide) (by simp [Value.category]) (Nat.le_of_ble_eq_true rfl) ?_
  refine blk 3 [(.iconst 0, 0, 0, (nI 0)), (.istore_n 3, 0, 0, 0), (.iconst 0, 0, 0, (nI 0)), (.istore 4, 0, 0, 0)] [] (by decide +kernel) rfl (pc' := 5) (ls' := [some (.ref 35), some (.ref 37), some (.int S), some (.int (nI 0)), some (.int (nI 0)), none]) (st' := []) (M' := M) rfl ⟨trivial, trivial, trivial, trivial, trivial⟩ ?_
  exact l_cpw35 hw hW _ 0 M rfl (by omega) (fun z _ => rfl) (fun a _ _ j h => absurd h (by omega))
theorem l_cpw237 {M0 : Mem} {S : Int32} {k : Nat} {Post : Option Value → Mem → Prop} (hk : k < 60) (hp : ∀ M, (∀ z, (∀ a, a < 5 → ¬ hb S a = 0 → z ≠ 61 + a + 5) → M z = M0 z) → cpwI M0 M 61 51 S (k + 1) → G mX3_copyWithout 84 [some (.ref 37), some (.ref 35), some (.int S), some (.int (nI (bcnt (keepB M0 51 S) k + 1))), some (.int (nI k)), none] [] M Post) : ∀ d i M, d = 5 - i → i ≤ 5 → (∀ z, (∀ a, a < 5 → ¬ hb S a = 0 → z ≠ 61 + a + 5) → M z = M0 z) → cpwI M0 M 61 51 S k → (∀ a, a < i → ¬ hb S a = 0 → M (61 + a + 5) (bcnt (keepB M0 51 S) k) = M0 (51 + a + 5) k) → G mX3_copyWithout 35 [some (.ref 37), some (.ref 35), some (.int S), some (.int (nI (bcnt (keepB M0 51 S) k))), some (.int (nI k)), some (.int (nI i))] [] M Post := by
  intro d
  induction d using Nat.strongRecOn with
  | ind d ih =>
    intro i M hd hj j1 j2 j3
    refine blk 3 [(.iload 5, 0, 0, 0), (.iconst 5, 0, 0, (nI 5))] [] (by decide +kernel) rfl (pc' := 38) (ls' := [some (.ref 37), some (.ref 35), some (.int S), some (.int (nI (bcnt (keepB M0 51 S) k))), some (.int (nI k)), some (.int (nI i))]) (st' := [.int (nI 5), .int (nI i)]) (M' := M) rfl ⟨trivial, trivial, trivial⟩ ?_
    refine g_icmp_ge (off := 43) (tgt := 81) (by decide +kernel) (by decide) (fun c1 => ?_) (fun c1 => ?_)
    · have nc1 : 5 ≤ i := (nI_leI (by omega) (by omega)).mp (by simpa only [nI_add, pk_mul, nI_s1, n0_lit] using c1)
      refine blk 3 [(.iinc 3 1, 0, 0, (nI 1))] [] (by decide +kernel) rfl (pc' := 84) (ls' := [some (.ref 37), some (.ref 35), some (.int S), some (.int (nI (bcnt (keepB M0 51 S) k) + nI 1)), some (.int (nI k)), some (.int (nI i))]) (st' := []) (M' := M) rfl ⟨trivial, trivial⟩ ?_
      have e : i = 5 := by omega
      subst e
      refine G.sub (ls' := [some (.ref 37), some (.ref 35), some (.int S), some (.int (nI (bcnt (keepB M0 51 S) k + 1))), some (.int (nI k)), none]) ?_ ⟨rfl, rfl, rfl, congrArg (fun z => some (Value.int z)) (by simp only [nI_add, nI_s1]), rfl, trivial⟩
      refine hp M j1 (fun a h1 h2 j h3 h4 => ?_)
      by_cases e : j = k
      · subst e; exact j3 a h1 h2
      · exact j2 a h1 h2 j (by omega) h4
    · have nc1 : i < 5 := by
        have z : ¬ nI 5 ≤ nI i := by simpa only [nI_add, pk_mul, nI_s1, n0_lit] using c1
        rw [nI_leI (by omega) (by omega)] at z
        omega
      refine blk 3 [(.iload_n 2, 0, 0, 0), (.iload 5, 0, 0, 0)] [] (by decide +kernel) rfl (pc' := 44) (ls' := [some (.ref 37), some (.ref 35), some (.int S), some (.int (nI (bcnt (keepB M0 51 S) k))), some (.int (nI k)), some (.int (nI i))]) (st' := [.int (nI i), .int S]) (M' := M) rfl ⟨trivial, trivial, trivial⟩ ?_
      refine g_callN (index := 28) (s_holds _ S i) rfl (by decide) ⟨ok_X6_holds.1, ok_X6_holds.2.1, ok_X6_holds.2.2.1, ok_X6_holds.2.2.2, by decide +kernel, by decide +kernel⟩ (by decide +kernel) rfl (Nat.le_of_ble_eq_true rfl) (fun r M' h => ?_) rfl
      obtain ⟨hr, hM⟩ := h
      rw [hr, hM]
      show G _ 47 [some (.ref 37), some (.ref 35), some (.int S), some (.int (nI (bcnt (keepB M0 51 S) k))), some (.int (nI k)), some (.int (nI i))] [.int (hb S i)] M _
      refine g_if_eq (off := 28) (tgt := 75) (by decide +kernel) (by decide) (fun c2 => ?_) (fun c2 => ?_)
      · refine blk 3 [(.iinc 5 1, 0, 0, (nI 1)), (.goto (-43), 35, 0, 0)] [] (by decide +kernel) rfl (pc' := 35) (ls' := [some (.ref 37), some (.ref 35), some (.int S), some (.int (nI (bcnt (keepB M0 51 S) k))), some (.int (nI k)), some (.int (nI i + nI 1))]) (st' := []) (M' := M) rfl ⟨trivial, trivial, trivial⟩ ?_
        refine G.sub (ls' := [some (.ref 37), some (.ref 35), some (.int S), some (.int (nI (bcnt (keepB M0 51 S) k))), some (.int (nI k)), some (.int (nI (i + 1)))]) ?_ ⟨rfl, rfl, rfl, rfl, rfl, congrArg (fun z => some (Value.int z)) (by simp only [nI_add, nI_s1]), trivial⟩
        exact ih (d - 1) (by omega) (i + 1) _ (by omega) (by omega) j1 j2 (fun a h1 h2 => by
                by_cases e : a = i
                · subst e; exact absurd c2 h2
                · exact j3 a (by omega) h2)
      · refine blk 3 [(.aload_n 0, 0, 0, 0), (.getfield 11, 3, 0, 0), (.iload 5, 0, 0, 0), (.aaload, 0, 0, 0), (.getfield 31, 2, 0, 0), (.iload_n 3, 0, 0, 0), (.aload_n 1, 0, 0, 0), (.getfield 11, 3, 0, 0), (.iload 5, 0, 0, 0), (.aaload, 0, 0, 0), (.getfield 31, 2, 0, 0), (.iload 4, 0, 0, 0), (.iaload, 0, 0, 0), (.iastore, 0, 0, 0), (.iinc 5 1, 0, 0, (nI 1)), (.goto (-43), 35, 0, 0)] [i, i, k, bcnt (keepB M0 51 S) k] (by decide +kernel) rfl (pc' := 35) (ls' := [some (.ref 37), some (.ref 35), some (.int S), some (.int (nI (bcnt (keepB M0 51 S) k))), some (.int (nI k)), some (.int (nI i + nI 1))]) (st' := []) (M' := stm M (61 + i + 5) (bcnt (keepB M0 51 S) k) (M (51 + i + 5) k)) rfl ⟨trivial, rfl, trivial, ⟨rfl, (by show _ < 5; omega)⟩, (kd61 (by omega)), trivial, trivial, rfl, trivial, ⟨rfl, (by show _ < 5; omega)⟩, (kd51 (by omega)), trivial, ⟨rfl, (Nat.lt_of_lt_of_eq (by omega : k < 60) (al56 (i := i) (by omega)).symm)⟩, ⟨rfl, (Nat.lt_of_lt_of_eq (by have := bcnt_le (keepB M0 51 S) k; omega : bcnt (keepB M0 51 S) k < 60) (al66 (i := i) (by omega)).symm), by show 61 + i + 5 < 96; omega⟩, trivial, trivial, trivial⟩ ?_
        refine G.sub (ls' := [some (.ref 37), some (.ref 35), some (.int S), some (.int (nI (bcnt (keepB M0 51 S) k))), some (.int (nI k)), some (.int (nI (i + 1)))]) ?_ ⟨rfl, rfl, rfl, rfl, rfl, congrArg (fun z => some (Value.int z)) (by simp only [nI_add, nI_s1]), trivial⟩
        refine ih (d - 1) (by omega) (i + 1) _ (by omega) (by omega) (fun z hz => ?_) (fun a h1 h2 j h3 h4 => ?_) (fun a h1 h2 => ?_)
        · rw [stm_ne (hz i (by omega) c2)]; exact j1 z hz
        · have hlt := bcnt_lt _ h3 h4
          by_cases e : a = i
          · subst e; rw [stm_off (by omega)]; exact j2 a h1 h2 j h3 h4
          · rw [stm_ne (by omega)]; exact j2 a h1 h2 j h3 h4
        · by_cases e : a = i
          · subst e; rw [stm_self, j1 (51 + a + 5) (fun b _ _ => by omega)]
          · rw [stm_ne (by omega)]; exact j3 a (by omega) h2
theorem l_cpw337 {M1 : Mem} {S : Int32} {v : Nat} {Post : Option Value → Mem → Prop} (hp : ∀ M, (∀ z, (∀ a, a < 5 → z ≠ 61 + a) → M z = M1 z) → (∀ a, a < 5 → M (61 + a) 1 = nI v) → Post none M) : ∀ d i M, d = 5 - i → i ≤ 5 → (∀ z, (∀ a, a < i → z ≠ 61 + a) → M z = M1 z) → (∀ a, a < i → M (61 + a) 1 = nI v) → G mX3_copyWithout 93 [some (.ref 37), some (.ref 35), some (.int S), some (.int (nI v)), some (.int (nI i)), none] [] M Post := by
  intro d
  induction d using Nat.strongRecOn with
  | ind d ih =>
    intro i M hd hj j1 j2
    refine blk 3 [(.iload 4, 0, 0, 0), (.iconst 5, 0, 0, (nI 5))] [] (by decide +kernel) rfl (pc' := 96) (ls' := [some (.ref 37), some (.ref 35), some (.int S), some (.int (nI v)), some (.int (nI i)), none]) (st' := [.int (nI 5), .int (nI i)]) (M' := M) rfl ⟨trivial, trivial, trivial⟩ ?_
    refine g_icmp_ge (off := 20) (tgt := 116) (by decide +kernel) (by decide) (fun c1 => ?_) (fun c1 => ?_)
    · have nc1 : 5 ≤ i := (nI_leI (by omega) (by omega)).mp (by simpa only [nI_add, pk_mul, nI_s1, n0_lit] using c1)
      have e : i = 5 := by omega
      subst e
      exact g_return (by decide +kernel) rfl (hp M j1 j2)
    · have nc1 : i < 5 := by
        have z : ¬ nI 5 ≤ nI i := by simpa only [nI_add, pk_mul, nI_s1, n0_lit] using c1
        rw [nI_leI (by omega) (by omega)] at z
        omega
      refine blk 3 [(.aload_n 0, 0, 0, 0), (.getfield 11, 3, 0, 0), (.iload 4, 0, 0, 0), (.aaload, 0, 0, 0), (.iload_n 3, 0, 0, 0), (.putfield 20, 2, 1, 0), (.iinc 4 1, 0, 0, (nI 1)), (.goto (-20), 93, 0, 0)] [i] (by decide +kernel) rfl (pc' := 93) (ls' := [some (.ref 37), some (.ref 35), some (.int S), some (.int (nI v)), some (.int (nI i + nI 1)), none]) (st' := []) (M' := stm M (61 + i) 1 (nI v)) rfl ⟨trivial, rfl, trivial, ⟨rfl, (by show _ < 5; omega)⟩, trivial, (kd61 (by omega)), trivial, trivial, trivial⟩ ?_
      refine G.sub (ls' := [some (.ref 37), some (.ref 35), some (.int S), some (.int (nI v)), some (.int (nI (i + 1))), none]) ?_ ⟨rfl, rfl, rfl, rfl, congrArg (fun z => some (Value.int z)) (by simp only [nI_add, nI_s1]), trivial⟩
      refine ih (d - 1) (by omega) (i + 1) _ (by omega) (by omega) (fun z hz => ?_) (fun a h1 => ?_)
      · rw [stm_ne (hz i (by omega))]; exact j1 z (fun a h => hz a (by omega))
      · by_cases e : a = i
        · subst e; rw [stm_self]
        · rw [stm_ne (by omega)]; exact j2 a (by omega)
theorem l_cpw37 {M0 : Mem} {S : Int32} {Wd0 : Nat} (hw : Wd0 ≤ 60) (hW0 : M0 51 1 = nI Wd0) : ∀ d k M, d = Wd0 - k → k ≤ Wd0 → (∀ z, (∀ a, a < 5 → ¬ hb S a = 0 → z ≠ 61 + a + 5) → M z = M0 z) → cpwI M0 M 61 51 S k → G mX3_copyWithout 5 [some (.ref 37), some (.ref 35), some (.int S), some (.int (nI (bcnt (keepB M0 51 S) k))), some (.int (nI k)), none] [] M (cpwP M0 61 51 S Wd0) := by
  intro d
  induction d using Nat.strongRecOn with
  | ind d ih =>
    intro k M hd hj j1 j2
    have hW : M 51 1 = nI Wd0 := by rw [j1 51 (fun a _ _ => by omega)]; exact hW0
    refine blk 3 [(.iload 4, 0, 0, 0), (.aload_n 1, 0, 0, 0), (.getfield 11, 3, 0, 0), (.iconst 0, 0, 0, (nI 0)), (.aaload, 0, 0, 0), (.getfield 20, 2, 1, 0)] [0] (by decide +kernel) rfl (pc' := 16) (ls' := [some (.ref 37), some (.ref 35), some (.int S), some (.int (nI (bcnt (keepB M0 51 S) k))), some (.int (nI k)), none]) (st' := [.int (M 51 1), .int (nI k)]) (M' := M) rfl ⟨trivial, trivial, rfl, trivial, ⟨rfl, (by decide)⟩, rfl, trivial⟩ ?_
    refine g_icmp_ge (off := 74) (tgt := 90) (by decide +kernel) (by decide) (fun c1 => ?_) (fun c1 => ?_)
    · have nc1 : Wd0 ≤ k := (nI_leI (by omega) (by omega)).mp (by simpa only [hW, nI_add, pk_mul, nI_s1, n0_lit] using c1)
      refine blk 3 [(.iconst 0, 0, 0, (nI 0)), (.istore 4, 0, 0, 0)] [] (by decide +kernel) rfl (pc' := 93) (ls' := [some (.ref 37), some (.ref 35), some (.int S), some (.int (nI (bcnt (keepB M0 51 S) k))), some (.int (nI 0)), none]) (st' := []) (M' := M) rfl ⟨trivial, trivial, trivial⟩ ?_
      have e : k = Wd0 := by omega
      subst e
      refine l_cpw337 (M1 := M) (fun N h1 h2 => ⟨rfl, h2, fun a b1 b2 j b3 b4 => ?_, fun z hz => ?_⟩) _ 0 M rfl (by omega) (fun z _ => rfl) (fun a h => absurd h (by omega))
      · rw [h1 _ (fun c _ => by omega)]; exact j2 a b1 b2 j b3 b4
      · rw [h1 z (fun a h => (hz a h).1)]; exact j1 z (fun a h _ => (hz a h).2)
    · have nc1 : k < Wd0 := by
        have z : ¬ nI Wd0 ≤ nI k := by simpa only [hW, nI_add, pk_mul, nI_s1, n0_lit] using c1
        rw [nI_leI (by omega) (by omega)] at z
        omega
      refine blk 3 [(.aload_n 1, 0, 0, 0), (.iload 4, 0, 0, 0), (.iload_n 2, 0, 0, 0)] [] (by decide +kernel) rfl (pc' := 23) (ls' := [some (.ref 37), some (.ref 35), some (.int S), some (.int (nI (bcnt (keepB M0 51 S) k))), some (.int (nI k)), none]) (st' := [.int S, .int (nI k), .ref 35]) (M' := M) rfl ⟨trivial, trivial, trivial, trivial⟩ ?_
      refine g_callV (s_has35 M S (k := k) (by omega)) ok_X3_copyWithout_X3_hasLetter (by decide +kernel) rfl (c := 3) rfl (by decide) rfl (Nat.le_of_ble_eq_true rfl) (fun r M' h => ?_) rfl
      obtain ⟨hr, hM⟩ := h
      rw [hr, hM]
      show G _ 26 [some (.ref 37), some (.ref 35), some (.int S), some (.int (nI (bcnt (keepB M0 51 S) k))), some (.int (nI k)), none] [.int (bI (anyB (hasF M 51 S k) 5))] M _
      rw [show anyB (hasF M 51 S k) 5 = keepB M0 51 S k from anyB_congr (fun i hi => by simp only [hasF]; rw [j1 (51 + i + 5) (fun a _ _ => by omega)])]
      refine g_if_ne (off := 6) (tgt := 32) (by decide +kernel) (by decide) (fun c2 => ?_) (fun c2 => ?_)
      · refine blk 3 [(.iconst 0, 0, 0, (nI 0)), (.istore 5, 0, 0, 0)] [] (by decide +kernel) rfl (pc' := 35) (ls' := [some (.ref 37), some (.ref 35), some (.int S), some (.int (nI (bcnt (keepB M0 51 S) k))), some (.int (nI k)), some (.int (nI 0))]) (st' := []) (M' := M) rfl ⟨trivial, trivial, trivial⟩ ?_
        refine l_cpw237 (by omega) (fun N h1 h2 => ?_) _ 0 M rfl (by omega) j1 j2 (fun a h => absurd h (by omega))
        have ep : bcnt (keepB M0 51 S) (k + 1) = bcnt (keepB M0 51 S) k + 1 := by rw [bcnt, if_pos (bI_ne c2)]
        rw [← ep]
        refine blk 3 [(.iinc 4 1, 0, 0, (nI 1)), (.goto (-82), 5, 0, 0)] [] (by decide +kernel) rfl (pc' := 5) (ls' := [some (.ref 37), some (.ref 35), some (.int S), some (.int (nI (bcnt (keepB M0 51 S) (k + 1)))), some (.int (nI k + nI 1)), none]) (st' := []) (M' := N) rfl ⟨trivial, trivial, trivial⟩ ?_
        refine G.sub (ls' := [some (.ref 37), some (.ref 35), some (.int S), some (.int (nI (bcnt (keepB M0 51 S) (k + 1)))), some (.int (nI (k + 1))), none]) ?_ ⟨rfl, rfl, rfl, rfl, congrArg (fun z => some (Value.int z)) (nI_add _ _), trivial⟩
        exact ih (d - 1) (by omega) (k + 1) N (by omega) (by omega) h1 h2
      · refine blk 3 [(.goto (55), 84, 0, 0), (.iinc 4 1, 0, 0, (nI 1)), (.goto (-82), 5, 0, 0)] [] (by decide +kernel) rfl (pc' := 5) (ls' := [some (.ref 37), some (.ref 35), some (.int S), some (.int (nI (bcnt (keepB M0 51 S) k))), some (.int (nI k + nI 1)), none]) (st' := []) (M' := M) rfl ⟨trivial, trivial, trivial, trivial⟩ ?_
        have ep : bcnt (keepB M0 51 S) (k + 1) = bcnt (keepB M0 51 S) k := by rw [bcnt, if_neg (by rw [bI_eq c2]; decide)]; omega
        refine G.sub (ls' := [some (.ref 37), some (.ref 35), some (.int S), some (.int (nI (bcnt (keepB M0 51 S) (k + 1)))), some (.int (nI (k + 1))), none]) ?_ ⟨rfl, rfl, rfl, congrArg (fun z => some (Value.int z)) (by rw [ep]), congrArg (fun z => some (Value.int z)) (by simp only [nI_add, nI_s1]), trivial⟩
        refine ih (d - 1) (by omega) (k + 1) M (by omega) (by omega) j1 (fun a h1 h2 j h3 h4 => ?_)
        by_cases e : j = k
        · subst e; rw [bI_eq c2] at h4; cases h4
        · exact j2 a h1 h2 j (by omega) h4
theorem s_cpw37 (M : Mem) (S : Int32) {Wd0 : Nat} (hw : Wd0 ≤ 60) (hW : M 51 1 = nI Wd0) : Spec mX3_copyWithout [.ref 37, .ref 35, .int S] M (cpwP M 61 51 S Wd0) := by
  refine Spec.of (by decide) (by simp [Value.category]) (Nat.le_of_ble_eq_true rfl) ?_
  refine blk 3 [(.iconst 0, 0, 0, (nI 0)), (.istore_n 3, 0, 0, 0), (.iconst 0, 0, 0, (nI 0)), (.istore 4, 0, 0, 0)] [] (by decide +kernel) rfl (pc' := 5) (ls' := [some (.ref 37), some (.ref 35), some (.int S), some (.int (nI 0)), some (.int (nI 0)), none]) (st' := []) (M' := M) rfl ⟨trivial, trivial, trivial, trivial, trivial⟩ ?_
  exact l_cpw37 hw hW _ 0 M rfl (by omega) (fun z _ => rfl) (fun a _ _ j h => absurd h (by omega))
