/-! the reference: walk, merge -/
/-- is s a step that can be taken and that is worth what the table says? -/
def prB (M : Mem) (p q : Nat) (pA qA : Int32) (i j l : Nat) : Nat → Bool := fun s => canB p q i j s && decide (swF M i j l s pA qA = M 40 (3 * (61 * i + j) + l))
def mch (M : Mem) (p q : Nat) (pA qA : Int32) (i j l : Nat) : Nat := if prB M p q pA qA i j l 0 then 0 else if prB M p q pA qA i j l 1 then 1 else 2
def mst (M : Mem) (p q : Nat) (pA qA : Int32) : Nat → Nat × Nat × Nat
  | 0 => (0, 0, 0)
  | n + 1 => ((mst M p q pA qA n).1 + (if mch M p q pA qA (mst M p q pA qA n).1 (mst M p q pA qA n).2.1 (mst M p q pA qA n).2.2 = 2 then 0 else 1), (mst M p q pA qA n).2.1 + (if mch M p q pA qA (mst M p q pA qA n).1 (mst M p q pA qA n).2.1 (mst M p q pA qA n).2.2 = 1 then 0 else 1), mch M p q pA qA (mst M p q pA qA n).1 (mst M p q pA qA n).2.1 (mst M p q pA qA n).2.2)
def mOK (M : Mem) (p q : Nat) (pA qA : Int32) : Prop := ∀ i j l, i ≤ p → j ≤ q → (i < p ∨ j < q) → l ≤ 2 → prB M p q pA qA i j l (mch M p q pA qA i j l) = true
theorem msF_att {can : Nat → Bool} {v : Nat → Int32} {n : Nat} (h : ∃ k, k < n ∧ can k = true) : ∃ k, k < n ∧ can k = true ∧ (msF can v n).2 = v k := by
  induction n with
  | zero => obtain ⟨k, h1, _⟩ := h; omega
  | succ n ih =>
    rw [msF]
    by_cases c : can n = true
    · rw [if_pos c]
      show ∃ k, k < n + 1 ∧ can k = true ∧ (if ¬ (msF can v n).1 = 0 ∧ ¬ (msF can v n).2 < v n then (msF can v n).2 else v n) = v k
      by_cases e : ¬ (msF can v n).1 = 0 ∧ ¬ (msF can v n).2 < v n
      · rw [if_pos e]
        have h2 : ∃ k, k < n ∧ can k = true := by
          apply Classical.byContradiction
          intro hn
          have : ∀ m, m ≤ n → (msF can v m).1 = nI 0 := by
            intro m
            induction m with
            | zero => intro _; rfl
            | succ m im =>
              intro hm
              rw [msF, if_neg (fun z => hn ⟨m, by omega, z⟩)]
              exact im (by omega)
          exact e.1 ((this n (Nat.le_refl n)).trans nI_0)
        obtain ⟨k, h3, h4, h5⟩ := ih h2
        exact ⟨k, by omega, h4, h5⟩
      · rw [if_neg e]; exact ⟨n, by omega, c, rfl⟩
    · rw [if_neg c]
      obtain ⟨k, h1, h2⟩ := h
      obtain ⟨k, h3, h4, h5⟩ := ih ⟨k, by rcases Nat.lt_or_ge k n with z | z; exact z; exact absurd (show k = n by omega ▸ h2) (by rw [show k = n by omega] at h2; exact absurd h2 c), h2⟩
      exact ⟨k, by omega, h4, h5⟩
theorem tbm_ok {M : Mem} {p q : Nat} {pA qA : Int32} (ht : tbm M p q pA qA (fun _ _ => True)) : mOK M p q pA qA := by
  intro i j l hi hj ha hl
  have e := ht i j l hi hj (by omega) trivial
  obtain ⟨k, k1, k2, k3⟩ := msF_att (can := canB p q i j) (v := fun s => swF M i j l s pA qA) (n := 3) (by
    rcases ha with h | h
    · exact ⟨1, by decide, by unfold canB; simp [h]⟩
    · exact ⟨2, by decide, by unfold canB; simp [h]⟩)
  have hk : prB M p q pA qA i j l k = true := by
    unfold prB
    rw [k2, Bool.true_and, decide_eq_true_eq, e]
    exact k3.symm
  unfold mch
  by_cases c0 : prB M p q pA qA i j l 0 = true
  · rw [if_pos c0]; exact c0
  · rw [if_neg c0]
    by_cases c1 : prB M p q pA qA i j l 1 = true
    · rw [if_pos c1]; exact c1
    · rw [if_neg c1]
      rcases (show k = 0 ∨ k = 1 ∨ k = 2 by omega) with rfl | rfl | rfl
      · exact absurd hk c0
      · exact absurd hk c1
      · exact hk
theorem mch_le (M : Mem) (p q : Nat) (pA qA : Int32) (i j l : Nat) : mch M p q pA qA i j l ≤ 2 := by unfold mch; split <;> (try split) <;> omega
theorem mch_is {M : Mem} {p q : Nat} {pA qA : Int32} {i j l s : Nat} (hs : s ≤ 2) (h : prB M p q pA qA i j l s = true) (hn : ∀ a, a < s → prB M p q pA qA i j l a = false) : mch M p q pA qA i j l = s := by
  unfold mch
  rcases (show s = 0 ∨ s = 1 ∨ s = 2 by omega) with rfl | rfl | rfl
  · rw [if_pos h]
  · rw [if_neg (by rw [hn 0 (by omega)]; decide), if_pos h]
  · rw [if_neg (by rw [hn 0 (by omega)]; decide), if_neg (by rw [hn 1 (by omega)]; decide)]
/-- a cell of the merged group -/
def mcv (M : Mem) (i j s w : Nat) : Int32 := if ¬ hb (M 72 25) w = 0 ∧ s ≠ 2 then M 90 (60 * w + i) else if ¬ hb (M 72 26) w = 0 ∧ s ≠ 1 then M 91 (60 * w + j) else -1
def keepW (M N : Mem) : Prop := (∀ z, z ≠ 72 → z ≠ 92 → N z = M z) ∧ ∀ f, f ≠ 31 → N 72 f = M 72 f
def mwalkP (M : Mem) (p q : Nat) (pA qA : Int32) : Option Value → Mem → Prop := fun r N => r = none ∧ ∃ n, n ≤ p + q ∧ (mst M p q pA qA n).1 = p ∧ (mst M p q pA qA n).2.1 = q ∧ (∀ k, k < n → ((mst M p q pA qA k).1 ≤ p ∧ (mst M p q pA qA k).2.1 ≤ q ∧ ((mst M p q pA qA k).1 < p ∨ (mst M p q pA qA k).2.1 < q))) ∧ N 72 31 = nI n ∧ (∀ k w, k < n → w < 5 → N 92 (60 * w + k) = mcv M (mst M p q pA qA k).1 (mst M p q pA qA k).2.1 (mst M p q pA qA (k + 1)).2.2 w) ∧ keepW M N
theorem sw_keep {M N : Mem} {i j l s : Nat} {pA qA : Int32} (h : keepW M N) : swF N i j l s pA qA = swF M i j l s pA qA := by
  unfold swF
  rw [h.1 93 (by decide) (by decide), h.1 40 (by decide) (by decide), h.2 6 (by decide), h.2 7 (by decide), h.1 94 (by decide) (by decide), h.1 95 (by decide) (by decide)]
theorem l_mw1 {M N : Mem} {p q i j l : Nat} {pA qA : Int32} {Post : Option Value → Mem → Prop} (hm : mgr M p q) (hk : keepW M N) (hi : i ≤ p) (hj : j ≤ q) (hl : l ≤ 2) (hok : prB M p q pA qA i j l (mch M p q pA qA i j l) = true) (hp : G mX7_walk 81 [some (.ref 72), some (.int pA), some (.int qA), some (.int (nI i)), some (.int (nI j)), some (.int (nI l)), some (.int (nI (mch M p q pA qA i j l))), none, none, none] [] N Post) : ∀ d s, d = 3 - s → s ≤ 2 → (∀ a, a < s → prB M p q pA qA i j l a = false) → G mX7_walk 33 [some (.ref 72), some (.int pA), some (.int qA), some (.int (nI i)), some (.int (nI j)), some (.int (nI l)), some (.int (nI s)), none, none, none] [] N Post := by
  have ⟨m1, m2, m3, m4⟩ := hm
  have n1 : N 72 27 = nI p := by rw [hk.2 27 (by decide)]; exact m1
  have n2 : N 72 28 = nI q := by rw [hk.2 28 (by decide)]; exact m2
  intro d
  induction d using Nat.strongRecOn with
  | ind d ih =>
    intro s hd hs hn
    refine blk 7 [(.aload_n 0, 0, 0, 0), (.iload_n 3, 0, 0, 0), (.iload 4, 0, 0, 0), (.iload 6, 0, 0, 0)] [] (by decide +kernel) rfl (pc' := 39) (ls' := [some (.ref 72), some (.int pA), some (.int qA), some (.int (nI i)), some (.int (nI j)), some (.int (nI l)), some (.int (nI s)), none, none, none]) (st' := [.int (nI s), .int (nI j), .int (nI i), .ref 72]) (M' := N) rfl ⟨trivial, trivial, trivial, trivial, trivial⟩ ?_
    refine g_callV (s_can N (p := p) (q := q) (i := i) (j := j) (s := s) n1 n2 m3 m4 (by omega) (by omega) (by omega)) ok_X7_walk_X7_canStep (by decide +kernel) rfl (c := 7) rfl (by decide) rfl (Nat.le_of_ble_eq_true rfl) (fun r M' h => ?_) rfl
    obtain ⟨hr, hM⟩ := h
    rw [hr, hM]
    show G _ 42 [some (.ref 72), some (.int pA), some (.int qA), some (.int (nI i)), some (.int (nI j)), some (.int (nI l)), some (.int (nI s)), none, none, none] [.int (bI (canB p q i j s))] N _
    refine g_if_eq (off := 33) (tgt := 75) (by decide +kernel) (by decide) (fun c1 => ?_) (fun c1 => ?_)
    · refine blk 7 [(.iinc 6 1, 0, 0, (nI 1)), (.goto (-45), 33, 0, 0)] [] (by decide +kernel) rfl (pc' := 33) (ls' := [some (.ref 72), some (.int pA), some (.int qA), some (.int (nI i)), some (.int (nI j)), some (.int (nI l)), some (.int (nI s + nI 1)), none, none, none]) (st' := []) (M' := N) rfl ⟨trivial, trivial, trivial⟩ ?_
      have hps : prB M p q pA qA i j l s = false := by
        unfold prB; rw [bI_eq c1, Bool.false_and]
      have hlt : s < mch M p q pA qA i j l := by
        rcases Nat.lt_or_ge s (mch M p q pA qA i j l) with z | z
        · exact z
        · have hok := hok
          rcases Nat.lt_or_ge (mch M p q pA qA i j l) s with y | y
          · rw [hn _ y] at hok; cases hok
          · rw [show mch M p q pA qA i j l = s by omega, hps] at hok; cases hok
      have hle := mch_le M p q pA qA i j l
      refine G.sub (ls' := [some (.ref 72), some (.int pA), some (.int qA), some (.int (nI i)), some (.int (nI j)), some (.int (nI l)), some (.int (nI (s + 1))), none, none, none]) ?_ ⟨rfl, rfl, rfl, rfl, rfl, rfl, congrArg (fun z => some (Value.int z)) (by simp only [nI_add, nI_s1]), trivial⟩
      exact ih (d - 1) (by omega) (s + 1) (by omega) (by omega) (fun a ha => by rcases Nat.lt_or_ge a s with z | z; exact hn a z; rw [show a = s by omega]; exact hps)
    · refine blk 7 [(.aload_n 0, 0, 0, 0), (.iload_n 3, 0, 0, 0), (.iload 4, 0, 0, 0), (.iload 5, 0, 0, 0), (.iload 6, 0, 0, 0), (.iload_n 1, 0, 0, 0), (.iload_n 2, 0, 0, 0)] [] (by decide +kernel) rfl (pc' := 55) (ls' := [some (.ref 72), some (.int pA), some (.int qA), some (.int (nI i)), some (.int (nI j)), some (.int (nI l)), some (.int (nI s)), none, none, none]) (st' := [.int qA, .int pA, .int (nI s), .int (nI l), .int (nI j), .int (nI i), .ref 72]) (M' := N) rfl ⟨trivial, trivial, trivial, trivial, trivial, trivial, trivial, trivial⟩ ?_
      refine g_callV (s_sw N (p := p) (q := q) (i := i) (j := j) (l := l) (s := s) pA qA m3 m4 hi hj hl (by omega) (bI_ne c1)) ok_X7_walk_X7_stepWorth (by decide +kernel) rfl (c := 7) rfl (by decide) rfl (Nat.le_of_ble_eq_true rfl) (fun r M' h => ?_) rfl
      obtain ⟨hr, hM⟩ := h
      rw [hr, hM]
      show G _ 58 [some (.ref 72), some (.int pA), some (.int qA), some (.int (nI i)), some (.int (nI j)), some (.int (nI l)), some (.int (nI s)), none, none, none] [.int (swF N i j l s pA qA)] N _
      refine blk 7 [(.aload_n 0, 0, 0, 0), (.getfield 83, 7, 36, 0), (.aload_n 0, 0, 0, 0), (.iload_n 3, 0, 0, 0), (.iload 4, 0, 0, 0), (.iload 5, 0, 0, 0)] [] (by decide +kernel) rfl (pc' := 68) (ls' := [some (.ref 72), some (.int pA), some (.int qA), some (.int (nI i)), some (.int (nI j)), some (.int (nI l)), some (.int (nI s)), none, none, none]) (st' := [.int (nI l), .int (nI j), .int (nI i), .ref 72, .ref 40, .int (swF N i j l s pA qA)]) (M' := N) rfl ⟨trivial, rfl, trivial, trivial, trivial, trivial, trivial⟩ ?_
      refine g_callV (s_entry N _ _ _) ok_X7_walk_X7_entry (by decide +kernel) rfl (c := 7) rfl (by decide) rfl (Nat.le_of_ble_eq_true rfl) (fun r M' h => ?_) rfl
      obtain ⟨hr, hM⟩ := h
      rw [hr, hM]
      show G _ 71 [some (.ref 72), some (.int pA), some (.int qA), some (.int (nI i)), some (.int (nI j)), some (.int (nI l)), some (.int (nI s)), none, none, none] [.int (nI 3 * (nI 61 * (nI i) + (nI j)) + (nI l)), .ref 40, .int (swF N i j l s pA qA)] N _
      refine blk 7 [(.iaload, 0, 0, 0)] [3 * (61 * i + j) + l] (by decide +kernel) rfl (pc' := 72) (ls' := [some (.ref 72), some (.int pA), some (.int qA), some (.int (nI i)), some (.int (nI j)), some (.int (nI l)), some (.int (nI s)), none, none, none]) (st' := [.int (N 40 (3 * (61 * i + j) + l)), .int (swF N i j l s pA qA)]) (M' := N) rfl ⟨⟨(by simp only [nI_add, pk_mul, nI_s1, Nat.reduceAdd, Nat.reduceMul]), (by show _ < 11163; omega)⟩, trivial⟩ ?_
      refine g_icmp_eq (off := 9) (tgt := 81) (by decide +kernel) (by decide) (fun c2 => ?_) (fun c2 => ?_)
      · have hps : prB M p q pA qA i j l s = true := by
          unfold prB; rw [bI_ne c1, Bool.true_and, decide_eq_true_eq, ← sw_keep hk, ← hk.1 40 (by decide) (by decide)]; exact c2
        have es := mch_is (by omega) hps hn
        subst es
        refine G.sub (ls' := [some (.ref 72), some (.int pA), some (.int qA), some (.int (nI i)), some (.int (nI j)), some (.int (nI l)), some (.int (nI (mch M p q pA qA i j l))), none, none, none]) ?_ ⟨rfl, rfl, rfl, rfl, rfl, rfl, congrArg (fun z => some (Value.int z)) (by simp only [nI_add, nI_s1]), trivial⟩
        exact hp
      · refine blk 7 [(.iinc 6 1, 0, 0, (nI 1)), (.goto (-45), 33, 0, 0)] [] (by decide +kernel) rfl (pc' := 33) (ls' := [some (.ref 72), some (.int pA), some (.int qA), some (.int (nI i)), some (.int (nI j)), some (.int (nI l)), some (.int (nI s + nI 1)), none, none, none]) (st' := []) (M' := N) rfl ⟨trivial, trivial, trivial⟩ ?_
        have hps : prB M p q pA qA i j l s = false := by
          unfold prB; rw [Bool.and_eq_false_iff]; right; rw [decide_eq_false_iff_not, ← sw_keep hk, ← hk.1 40 (by decide) (by decide)]; exact c2
        have hlt : s < mch M p q pA qA i j l := by
          rcases Nat.lt_or_ge s (mch M p q pA qA i j l) with z | z
          · exact z
          · have hok := hok
            rcases Nat.lt_or_ge (mch M p q pA qA i j l) s with y | y
            · rw [hn _ y] at hok; cases hok
            · rw [show mch M p q pA qA i j l = s by omega, hps] at hok; cases hok
        have hle := mch_le M p q pA qA i j l
        refine G.sub (ls' := [some (.ref 72), some (.int pA), some (.int qA), some (.int (nI i)), some (.int (nI j)), some (.int (nI l)), some (.int (nI (s + 1))), none, none, none]) ?_ ⟨rfl, rfl, rfl, rfl, rfl, rfl, congrArg (fun z => some (Value.int z)) (by simp only [nI_add, nI_s1]), trivial⟩
        exact ih (d - 1) (by omega) (s + 1) (by omega) (by omega) (fun a ha => by rcases Nat.lt_or_ge a s with z | z; exact hn a z; rw [show a = s by omega]; exact hps)
