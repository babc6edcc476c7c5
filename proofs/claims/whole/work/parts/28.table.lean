/-! the reference: merge's table -/
/-- the greatest of the steps that can be taken: is there one, and its worth -/
def msF (can : Nat → Bool) (v : Nat → Int32) : Nat → Int32 × Int32
  | 0 => (nI 0, nI 0)
  | k + 1 => if can k then (nI 1, if ¬ (msF can v k).1 = 0 ∧ ¬ (msF can v k).2 < v k then (msF can v k).2 else v k) else msF can v k
theorem msF_congr {can : Nat → Bool} {v w : Nat → Int32} {n : Nat} (h : ∀ k, k < n → can k = true → v k = w k) : msF can v n = msF can w n := by
  induction n with
  | zero => rfl
  | succ n ih =>
    rw [msF, msF, ih (fun k hk => h k (by omega))]
    by_cases c : can n = true
    · rw [if_pos c, if_pos c, h n (by omega) c]
    · rw [if_neg c, if_neg c]
def mdp (M : Mem) (p q : Nat) (pA qA : Int32) (i j l : Nat) : Int32 := (msF (canB p q i j) (fun s => swF M i j l s pA qA) 3).2
def mgr (M : Mem) (p q : Nat) : Prop := M 72 27 = nI p ∧ M 72 28 = nI q ∧ p ≤ 60 ∧ q ≤ 60
def mfP (M N : Mem) (p q : Nat) (pA qA : Int32) (i j m : Nat) : Prop := (∀ l, l < m → N 40 (3 * (61 * i + j) + l) = mdp M p q pA qA i j l) ∧ (∀ k, (∀ l, l < 3 → k ≠ 3 * (61 * i + j) + l) → N 40 k = M 40 k) ∧ ∀ z, z ≠ 40 → N z = M z
theorem canB_of {p q i j s : Nat} (h : canB p q i j s = true) : (s = 0 → i < p ∧ j < q) ∧ (s = 1 → i < p) ∧ (2 ≤ s → j < q) := by unfold canB at h; grind
theorem mdp_keep {M N : Mem} {p q i j l : Nat} {pA qA : Int32} (h0 : ∀ z, z ≠ 40 → N z = M z) (h1 : i < p → j < q → N 40 (3 * (61 * (i + 1) + (j + 1)) + 0) = M 40 (3 * (61 * (i + 1) + (j + 1)) + 0)) (h2 : i < p → N 40 (3 * (61 * (i + 1) + j) + 1) = M 40 (3 * (61 * (i + 1) + j) + 1)) (h3 : j < q → N 40 (3 * (61 * i + (j + 1)) + 2) = M 40 (3 * (61 * i + (j + 1)) + 2)) : mdp N p q pA qA i j l = mdp M p q pA qA i j l := by
  unfold mdp
  rw [msF_congr (fun k hk hc => ?_)]
  have c := canB_of hc
  unfold swF
  rw [h0 93 (by decide), h0 72 (by decide), h0 94 (by decide), h0 95 (by decide)]
  by_cases e0 : k = 0
  · rw [if_pos e0, if_pos e0, h1 (c.1 e0).1 (c.1 e0).2]
  · rw [if_neg e0, if_neg e0]
    by_cases e1 : k = 1
    · rw [if_pos e1, if_pos e1, h2 (c.2.1 e1)]
    · rw [if_neg e1, if_neg e1, h3 (c.2.2 (by omega))]
theorem l_ms {M : Mem} {p q i j l : Nat} {pA qA : Int32} {Post : Option Value → Mem → Prop} (hm : mgr M p q) (hi : i ≤ p) (hj : j ≤ q) (hl : l < 3) (hp : G mX7_merge 123 [some (.ref 72), some (.int pA), some (.int qA), some (.int (nI i)), some (.int (nI j)), some (.int (nI l)), none, some (.int (mdp M p q pA qA i j l)), none, none] [] M Post) : ∀ d k, d = 3 - k → k ≤ 3 → G mX7_merge 60 [some (.ref 72), some (.int pA), some (.int qA), some (.int (nI i)), some (.int (nI j)), some (.int (nI l)), some (.int ((msF (canB p q i j) (fun s => swF M i j l s pA qA) k).1)), some (.int ((msF (canB p q i j) (fun s => swF M i j l s pA qA) k).2)), some (.int (nI k)), none] [] M Post := by
  intro d
  induction d using Nat.strongRecOn with
  | ind d ih =>
    intro k hd hk
    refine blk 7 [(.iload 8, 0, 0, 0), (.iconst 3, 0, 0, (nI 3))] [] (by decide +kernel) rfl (pc' := 63) (ls' := [some (.ref 72), some (.int pA), some (.int qA), some (.int (nI i)), some (.int (nI j)), some (.int (nI l)), some (.int ((msF (canB p q i j) (fun s => swF M i j l s pA qA) k).1)), some (.int ((msF (canB p q i j) (fun s => swF M i j l s pA qA) k).2)), some (.int (nI k)), none]) (st' := [.int (nI 3), .int (nI k)]) (M' := M) rfl ⟨trivial, trivial, trivial⟩ ?_
    refine g_icmp_ge (off := 60) (tgt := 123) (by decide +kernel) (by decide) (fun c1 => ?_) (fun c1 => ?_)
    · have nc1 : 3 ≤ k := (nI_leI (by omega) (by omega)).mp (by simpa only [nI_add, pk_mul, nI_s1, n0_lit] using c1)
      have e : k = 3 := by omega
      subst e
      refine G.sub (ls' := [some (.ref 72), some (.int pA), some (.int qA), some (.int (nI i)), some (.int (nI j)), some (.int (nI l)), none, some (.int (mdp M p q pA qA i j l)), none, none]) ?_ ⟨rfl, rfl, rfl, rfl, rfl, rfl, congrArg (fun z => some (Value.int z)) rfl, trivial⟩
      exact hp
    · have nc1 : k < 3 := by
        have z : ¬ nI 3 ≤ nI k := by simpa only [nI_add, pk_mul, nI_s1, n0_lit] using c1
        rw [nI_leI (by omega) (by omega)] at z
        omega
      refine blk 7 [(.aload_n 0, 0, 0, 0), (.iload_n 3, 0, 0, 0), (.iload 4, 0, 0, 0), (.iload 8, 0, 0, 0)] [] (by decide +kernel) rfl (pc' := 72) (ls' := [some (.ref 72), some (.int pA), some (.int qA), some (.int (nI i)), some (.int (nI j)), some (.int (nI l)), some (.int ((msF (canB p q i j) (fun s => swF M i j l s pA qA) k).1)), some (.int ((msF (canB p q i j) (fun s => swF M i j l s pA qA) k).2)), some (.int (nI k)), none]) (st' := [.int (nI k), .int (nI j), .int (nI i), .ref 72]) (M' := M) rfl ⟨trivial, trivial, trivial, trivial, trivial⟩ ?_
      refine g_callV (s_can M (p := p) (q := q) (i := i) (j := j) (s := k) hm.1 hm.2.1 hm.2.2.1 hm.2.2.2 (by have := hm.2.2.1; omega) (by have := hm.2.2.2; omega) (by omega)) ok_X7_merge_X7_canStep (by decide +kernel) rfl (c := 7) rfl (by decide) rfl (Nat.le_of_ble_eq_true rfl) (fun r M' h => ?_) rfl
      obtain ⟨hr, hM⟩ := h
      rw [hr, hM]
      show G _ 75 [some (.ref 72), some (.int pA), some (.int qA), some (.int (nI i)), some (.int (nI j)), some (.int (nI l)), some (.int ((msF (canB p q i j) (fun s => swF M i j l s pA qA) k).1)), some (.int ((msF (canB p q i j) (fun s => swF M i j l s pA qA) k).2)), some (.int (nI k)), none] [.int (bI (canB p q i j k))] M _
      refine g_if_eq (off := 42) (tgt := 117) (by decide +kernel) (by decide) (fun c2 => ?_) (fun c2 => ?_)
      · refine blk 7 [(.iinc 8 1, 0, 0, (nI 1)), (.goto (-60), 60, 0, 0)] [] (by decide +kernel) rfl (pc' := 60) (ls' := [some (.ref 72), some (.int pA), some (.int qA), some (.int (nI i)), some (.int (nI j)), some (.int (nI l)), some (.int ((msF (canB p q i j) (fun s => swF M i j l s pA qA) k).1)), some (.int ((msF (canB p q i j) (fun s => swF M i j l s pA qA) k).2)), some (.int (nI k + nI 1)), none]) (st' := []) (M' := M) rfl ⟨trivial, trivial, trivial⟩ ?_
        have e : (msF (canB p q i j) (fun s => swF M i j l s pA qA) (k + 1)) = (msF (canB p q i j) (fun s => swF M i j l s pA qA) k) := by rw [msF, if_neg (by rw [bI_eq c2]; decide)]
        refine G.sub (ls' := [some (.ref 72), some (.int pA), some (.int qA), some (.int (nI i)), some (.int (nI j)), some (.int (nI l)), some (.int ((msF (canB p q i j) (fun s => swF M i j l s pA qA) (k + 1)).1)), some (.int ((msF (canB p q i j) (fun s => swF M i j l s pA qA) (k + 1)).2)), some (.int (nI (k + 1))), none]) ?_ ⟨rfl, rfl, rfl, rfl, rfl, rfl, congrArg (fun z => some (Value.int z)) (by rw [e]), congrArg (fun z => some (Value.int z)) (by rw [e]), congrArg (fun z => some (Value.int z)) (by simp only [nI_add, nI_s1]), trivial⟩
        exact ih (d - 1) (by omega) (k + 1) (by omega) (by omega)
      · refine blk 7 [(.aload_n 0, 0, 0, 0), (.iload_n 3, 0, 0, 0), (.iload 4, 0, 0, 0), (.iload 5, 0, 0, 0), (.iload 8, 0, 0, 0), (.iload_n 1, 0, 0, 0), (.iload_n 2, 0, 0, 0)] [] (by decide +kernel) rfl (pc' := 88) (ls' := [some (.ref 72), some (.int pA), some (.int qA), some (.int (nI i)), some (.int (nI j)), some (.int (nI l)), some (.int ((msF (canB p q i j) (fun s => swF M i j l s pA qA) k).1)), some (.int ((msF (canB p q i j) (fun s => swF M i j l s pA qA) k).2)), some (.int (nI k)), none]) (st' := [.int qA, .int pA, .int (nI k), .int (nI l), .int (nI j), .int (nI i), .ref 72]) (M' := M) rfl ⟨trivial, trivial, trivial, trivial, trivial, trivial, trivial, trivial⟩ ?_
        refine g_callV (s_sw M (p := p) (q := q) (i := i) (j := j) (l := l) (s := k) pA qA hm.2.2.1 hm.2.2.2 hi hj (by omega) (by omega) (bI_ne c2)) ok_X7_merge_X7_stepWorth (by decide +kernel) rfl (c := 7) rfl (by decide) rfl (Nat.le_of_ble_eq_true rfl) (fun r M' h => ?_) rfl
        obtain ⟨hr, hM⟩ := h
        rw [hr, hM]
        show G _ 91 [some (.ref 72), some (.int pA), some (.int qA), some (.int (nI i)), some (.int (nI j)), some (.int (nI l)), some (.int ((msF (canB p q i j) (fun s => swF M i j l s pA qA) k).1)), some (.int ((msF (canB p q i j) (fun s => swF M i j l s pA qA) k).2)), some (.int (nI k)), none] [.int (swF M i j l k pA qA)] M _
        refine blk 7 [(.istore 9, 0, 0, 0), (.iload 6, 0, 0, 0)] [] (by decide +kernel) rfl (pc' := 95) (ls' := [some (.ref 72), some (.int pA), some (.int qA), some (.int (nI i)), some (.int (nI j)), some (.int (nI l)), some (.int ((msF (canB p q i j) (fun s => swF M i j l s pA qA) k).1)), some (.int ((msF (canB p q i j) (fun s => swF M i j l s pA qA) k).2)), some (.int (nI k)), some (.int (swF M i j l k pA qA))]) (st' := [.int ((msF (canB p q i j) (fun s => swF M i j l s pA qA) k).1)]) (M' := M) rfl ⟨trivial, trivial, trivial⟩ ?_
        refine g_if_eq (off := 15) (tgt := 110) (by decide +kernel) (by decide) (fun c3 => ?_) (fun c3 => ?_)
        · refine blk 7 [(.iload 9, 0, 0, 0), (.istore 7, 0, 0, 0), (.iconst 1, 0, 0, (nI 1)), (.istore 6, 0, 0, 0), (.iinc 8 1, 0, 0, (nI 1)), (.goto (-60), 60, 0, 0)] [] (by decide +kernel) rfl (pc' := 60) (ls' := [some (.ref 72), some (.int pA), some (.int qA), some (.int (nI i)), some (.int (nI j)), some (.int (nI l)), some (.int (nI 1)), some (.int (swF M i j l k pA qA)), some (.int (nI k + nI 1)), some (.int (swF M i j l k pA qA))]) (st' := []) (M' := M) rfl ⟨trivial, trivial, trivial, trivial, trivial, trivial, trivial⟩ ?_
          have e : (msF (canB p q i j) (fun s => swF M i j l s pA qA) (k + 1)) = (nI 1, swF M i j l k pA qA) := by rw [msF, if_pos (bI_ne c2), if_neg (by exact fun z => z.1 c3)]
          refine G.sub (ls' := [some (.ref 72), some (.int pA), some (.int qA), some (.int (nI i)), some (.int (nI j)), some (.int (nI l)), some (.int ((msF (canB p q i j) (fun s => swF M i j l s pA qA) (k + 1)).1)), some (.int ((msF (canB p q i j) (fun s => swF M i j l s pA qA) (k + 1)).2)), some (.int (nI (k + 1))), none]) ?_ ⟨rfl, rfl, rfl, rfl, rfl, rfl, congrArg (fun z => some (Value.int z)) (by rw [e]), congrArg (fun z => some (Value.int z)) (by rw [e]), congrArg (fun z => some (Value.int z)) (by simp only [nI_add, nI_s1]), trivial⟩
          exact ih (d - 1) (by omega) (k + 1) (by omega) (by omega)
        · refine blk 7 [(.iload 7, 0, 0, 0), (.iload 9, 0, 0, 0)] [] (by decide +kernel) rfl (pc' := 102) (ls' := [some (.ref 72), some (.int pA), some (.int qA), some (.int (nI i)), some (.int (nI j)), some (.int (nI l)), some (.int ((msF (canB p q i j) (fun s => swF M i j l s pA qA) k).1)), some (.int ((msF (canB p q i j) (fun s => swF M i j l s pA qA) k).2)), some (.int (nI k)), some (.int (swF M i j l k pA qA))]) (st' := [.int (swF M i j l k pA qA), .int ((msF (canB p q i j) (fun s => swF M i j l s pA qA) k).2)]) (M' := M) rfl ⟨trivial, trivial, trivial⟩ ?_
          refine g_icmp_lt (off := 8) (tgt := 110) (by decide +kernel) (by decide) (fun c4 => ?_) (fun c4 => ?_)
          · refine blk 7 [(.iload 9, 0, 0, 0), (.istore 7, 0, 0, 0), (.iconst 1, 0, 0, (nI 1)), (.istore 6, 0, 0, 0), (.iinc 8 1, 0, 0, (nI 1)), (.goto (-60), 60, 0, 0)] [] (by decide +kernel) rfl (pc' := 60) (ls' := [some (.ref 72), some (.int pA), some (.int qA), some (.int (nI i)), some (.int (nI j)), some (.int (nI l)), some (.int (nI 1)), some (.int (swF M i j l k pA qA)), some (.int (nI k + nI 1)), some (.int (swF M i j l k pA qA))]) (st' := []) (M' := M) rfl ⟨trivial, trivial, trivial, trivial, trivial, trivial, trivial⟩ ?_
            have e : (msF (canB p q i j) (fun s => swF M i j l s pA qA) (k + 1)) = (nI 1, swF M i j l k pA qA) := by rw [msF, if_pos (bI_ne c2), if_neg (by exact fun z => z.2 c4)]
            refine G.sub (ls' := [some (.ref 72), some (.int pA), some (.int qA), some (.int (nI i)), some (.int (nI j)), some (.int (nI l)), some (.int ((msF (canB p q i j) (fun s => swF M i j l s pA qA) (k + 1)).1)), some (.int ((msF (canB p q i j) (fun s => swF M i j l s pA qA) (k + 1)).2)), some (.int (nI (k + 1))), none]) ?_ ⟨rfl, rfl, rfl, rfl, rfl, rfl, congrArg (fun z => some (Value.int z)) (by rw [e]), congrArg (fun z => some (Value.int z)) (by rw [e]), congrArg (fun z => some (Value.int z)) (by simp only [nI_add, nI_s1]), trivial⟩
            exact ih (d - 1) (by omega) (k + 1) (by omega) (by omega)
          · refine blk 7 [(.iload 7, 0, 0, 0), (.goto (5), 112, 0, 0), (.istore 7, 0, 0, 0), (.iconst 1, 0, 0, (nI 1)), (.istore 6, 0, 0, 0), (.iinc 8 1, 0, 0, (nI 1)), (.goto (-60), 60, 0, 0)] [] (by decide +kernel) rfl (pc' := 60) (ls' := [some (.ref 72), some (.int pA), some (.int qA), some (.int (nI i)), some (.int (nI j)), some (.int (nI l)), some (.int (nI 1)), some (.int ((msF (canB p q i j) (fun s => swF M i j l s pA qA) k).2)), some (.int (nI k + nI 1)), some (.int (swF M i j l k pA qA))]) (st' := []) (M' := M) rfl ⟨trivial, trivial, trivial, trivial, trivial, trivial, trivial, trivial⟩ ?_
            have e : (msF (canB p q i j) (fun s => swF M i j l s pA qA) (k + 1)) = (nI 1, (msF (canB p q i j) (fun s => swF M i j l s pA qA) k).2) := by rw [msF, if_pos (bI_ne c2), if_pos ⟨c3, c4⟩]
            refine G.sub (ls' := [some (.ref 72), some (.int pA), some (.int qA), some (.int (nI i)), some (.int (nI j)), some (.int (nI l)), some (.int ((msF (canB p q i j) (fun s => swF M i j l s pA qA) (k + 1)).1)), some (.int ((msF (canB p q i j) (fun s => swF M i j l s pA qA) (k + 1)).2)), some (.int (nI (k + 1))), none]) ?_ ⟨rfl, rfl, rfl, rfl, rfl, rfl, congrArg (fun z => some (Value.int z)) (by rw [e]), congrArg (fun z => some (Value.int z)) (by rw [e]), congrArg (fun z => some (Value.int z)) (by simp only [nI_add, nI_s1]), trivial⟩
            exact ih (d - 1) (by omega) (k + 1) (by omega) (by omega)
theorem l_last {M : Mem} {p q i j : Nat} {pA qA : Int32} {Post : Option Value → Mem → Prop} (hm : mgr M p q) (hi : i ≤ p) (hj : j ≤ q) (hp : ∀ N, mfP M N p q pA qA i j 3 → G mX7_merge 145 [some (.ref 72), some (.int pA), some (.int qA), some (.int (nI i)), some (.int (nI j)), none, none, none, none, none] [] N Post) : ∀ d l N, d = 3 - l → l ≤ 3 → (∀ a, a < l → N 40 (3 * (61 * i + j) + a) = mdp M p q pA qA i j a) → (∀ k, (∀ a, a < 3 → k ≠ 3 * (61 * i + j) + a) → N 40 k = M 40 k) → (∀ z, z ≠ 40 → N z = M z) → G mX7_merge 45 [some (.ref 72), some (.int pA), some (.int qA), some (.int (nI i)), some (.int (nI j)), some (.int (nI l)), none, none, none, none] [] N Post := by
  have ⟨m1, m2, m3, m4⟩ := hm
  intro d
  induction d using Nat.strongRecOn with
  | ind d ih =>
    intro l N hd hl f1 f2 f3
    have hmN : mgr N p q := by unfold mgr; rw [f3 72 (by decide)]; exact hm
    refine blk 7 [(.iload 5, 0, 0, 0), (.iconst 3, 0, 0, (nI 3))] [] (by decide +kernel) rfl (pc' := 48) (ls' := [some (.ref 72), some (.int pA), some (.int qA), some (.int (nI i)), some (.int (nI j)), some (.int (nI l)), none, none, none, none]) (st' := [.int (nI 3), .int (nI l)]) (M' := N) rfl ⟨trivial, trivial, trivial⟩ ?_
    refine g_icmp_ge (off := 97) (tgt := 145) (by decide +kernel) (by decide) (fun c1 => ?_) (fun c1 => ?_)
    · have nc1 : 3 ≤ l := (nI_leI (by omega) (by omega)).mp (by simpa only [nI_add, pk_mul, nI_s1, n0_lit] using c1)
      have e : l = 3 := by omega
      subst e
      refine G.sub (ls' := [some (.ref 72), some (.int pA), some (.int qA), some (.int (nI i)), some (.int (nI j)), none, none, none, none, none]) ?_ ⟨rfl, rfl, rfl, rfl, rfl, trivial⟩
      exact hp N ⟨f1, f2, f3⟩
    · have nc1 : l < 3 := by
        have z : ¬ nI 3 ≤ nI l := by simpa only [nI_add, pk_mul, nI_s1, n0_lit] using c1
        rw [nI_leI (by omega) (by omega)] at z
        omega
      refine blk 7 [(.iconst 0, 0, 0, (nI 0)), (.istore 6, 0, 0, 0), (.iconst 0, 0, 0, (nI 0)), (.istore 7, 0, 0, 0), (.iconst 0, 0, 0, (nI 0)), (.istore 8, 0, 0, 0)] [] (by decide +kernel) rfl (pc' := 60) (ls' := [some (.ref 72), some (.int pA), some (.int qA), some (.int (nI i)), some (.int (nI j)), some (.int (nI l)), some (.int (nI 0)), some (.int (nI 0)), some (.int (nI 0)), none]) (st' := []) (M' := N) rfl ⟨trivial, trivial, trivial, trivial, trivial, trivial, trivial⟩ ?_
      refine l_ms (M := N) hmN hi hj (by omega) ?_ _ 0 rfl (by omega)
      rw [show mdp N p q pA qA i j l = mdp M p q pA qA i j l from mdp_keep f3 (fun _ _ => f2 _ (fun a ha => by omega)) (fun _ => f2 _ (fun a ha => by omega)) (fun _ => f2 _ (fun a ha => by omega))]
      refine blk 7 [(.aload_n 0, 0, 0, 0), (.getfield 83, 7, 36, 0), (.aload_n 0, 0, 0, 0), (.iload_n 3, 0, 0, 0), (.iload 4, 0, 0, 0), (.iload 5, 0, 0, 0)] [] (by decide +kernel) rfl (pc' := 133) (ls' := [some (.ref 72), some (.int pA), some (.int qA), some (.int (nI i)), some (.int (nI j)), some (.int (nI l)), none, some (.int (mdp M p q pA qA i j l)), none, none]) (st' := [.int (nI l), .int (nI j), .int (nI i), .ref 72, .ref 40]) (M' := N) rfl ⟨trivial, rfl, trivial, trivial, trivial, trivial, trivial⟩ ?_
      refine g_callV (s_entry N _ _ _) ok_X7_merge_X7_entry (by decide +kernel) rfl (c := 7) rfl (by decide) rfl (Nat.le_of_ble_eq_true rfl) (fun r M' h => ?_) rfl
      obtain ⟨hr, hM⟩ := h
      rw [hr, hM]
      show G _ 136 [some (.ref 72), some (.int pA), some (.int qA), some (.int (nI i)), some (.int (nI j)), some (.int (nI l)), none, some (.int (mdp M p q pA qA i j l)), none, none] [.int (nI 3 * (nI 61 * (nI i) + (nI j)) + (nI l)), .ref 40] N _
      refine blk 7 [(.iload 7, 0, 0, 0), (.iastore, 0, 0, 0), (.iinc 5 1, 0, 0, (nI 1)), (.goto (-97), 45, 0, 0)] [3 * (61 * i + j) + l] (by decide +kernel) rfl (pc' := 45) (ls' := [some (.ref 72), some (.int pA), some (.int qA), some (.int (nI i)), some (.int (nI j)), some (.int (nI l + nI 1)), none, some (.int (mdp M p q pA qA i j l)), none, none]) (st' := []) (M' := stm N 40 (3 * (61 * i + j) + l) (mdp M p q pA qA i j l)) rfl ⟨trivial, ⟨(by simp only [nI_add, pk_mul, nI_s1, Nat.reduceAdd, Nat.reduceMul]), (by show _ < 11163; omega), by decide⟩, trivial, trivial, trivial⟩ ?_
      refine G.sub (ls' := [some (.ref 72), some (.int pA), some (.int qA), some (.int (nI i)), some (.int (nI j)), some (.int (nI (l + 1))), none, none, none, none]) ?_ ⟨rfl, rfl, rfl, rfl, rfl, congrArg (fun z => some (Value.int z)) (by simp only [nI_add, nI_s1]), trivial⟩
      refine ih (d - 1) (by omega) (l + 1) _ (by omega) (by omega) (fun a ha => ?_) (fun k hk => ?_) (fun z hz => by rw [stm_ne hz]; exact f3 z hz)
      · by_cases e : a = l
        · subst e; rw [stm_self]
        · rw [stm_off (by omega)]; exact f1 a (by omega)
      · rw [stm_off (hk l (by omega))]; exact f2 k hk
def tbm (M : Mem) (p q : Nat) (pA qA : Int32) (D : Nat → Nat → Prop) : Prop := ∀ i j l, i ≤ p → j ≤ q → l < 3 → D i j → M 40 (3 * (61 * i + j) + l) = mdp M p q pA qA i j l
theorem tbm_mono {M : Mem} {p q : Nat} {pA qA : Int32} {D E : Nat → Nat → Prop} (h : tbm M p q pA qA D) (hE : ∀ i j, i ≤ p → j ≤ q → E i j → D i j) : tbm M p q pA qA E := fun i j l hi hj hl he => h i j l hi hj hl (hE i j hi hj he)
theorem mdp_keep2 {M N : Mem} {p q i j i0 j0 l : Nat} {pA qA : Int32} (hN : mfP M N p q pA qA i0 j0 3) (hq : q ≤ 60) (hj : j ≤ q) (hj0 : j0 ≤ q) (h : i0 < i ∨ (i = i0 ∧ j0 ≤ j)) : mdp N p q pA qA i j l = mdp M p q pA qA i j l :=
  mdp_keep hN.2.2 (fun _ _ => hN.2.1 _ (fun a ha => by omega)) (fun _ => hN.2.1 _ (fun a ha => by omega)) (fun _ => hN.2.1 _ (fun a ha => by omega))
theorem tbm_step {M N : Mem} {p q i0 j0 : Nat} {pA qA : Int32} {D : Nat → Nat → Prop} (hN : mfP M N p q pA qA i0 j0 3) (hq : q ≤ 60) (hj0 : j0 ≤ q) (hD : ∀ i j, D i j → i0 < i ∨ (i = i0 ∧ j0 < j)) (h : tbm M p q pA qA D) : tbm N p q pA qA (fun i j => D i j ∨ (i = i0 ∧ j = j0)) := by
  intro i j l hi hj hl hd
  rcases hd with hd | ⟨rfl, rfl⟩
  · have hlt := hD i j hd
    rw [mdp_keep2 hN hq hj hj0 (by omega), ← h i j l hi hj hl hd]
    exact hN.2.1 _ (fun a ha => by omega)
  · rw [mdp_keep2 hN hq hj hj0 (by omega)]
    exact hN.1 l hl
def keepM (R T : Mem) : Prop := ∀ z, z ≠ 40 → T z = R z
theorem l_mj {R : Mem} {p q i : Nat} {pA qA : Int32} {Post : Option Value → Mem → Prop} (hm : mgr R p q) (hi : i ≤ p) (hp : ∀ M, keepM R M → tbm M p q pA qA (fun a c => i < a ∨ (a = i ∧ 0 ≤ c)) → G mX7_merge 151 [some (.ref 72), some (.int pA), some (.int qA), some (.int (nI i)), none, none, none, none, none, none] [] M Post) : ∀ b M, b ≤ q + 1 → keepM R M → tbm M p q pA qA (fun a c => i < a ∨ (a = i ∧ b ≤ c)) → G mX7_merge 37 [some (.ref 72), some (.int pA), some (.int qA), some (.int (nI i)), some (.int (nI b - nI 1)), none, none, none, none, none] [] M Post := by
  have ⟨m1, m2, m3, m4⟩ := hm
  intro b
  induction b with
  | zero =>
    intro M hb i1 i2
    refine blk 7 [(.iload 4, 0, 0, 0)] [] (by decide +kernel) rfl (pc' := 39) (ls' := [some (.ref 72), some (.int pA), some (.int qA), some (.int (nI i)), some (.int (nI 0 - nI 1)), none, none, none, none, none]) (st' := [.int (nI 0 - nI 1)]) (M' := M) rfl ⟨trivial, trivial⟩ ?_
    refine g_if_lt (off := 112) (tgt := 151) (by decide +kernel) (by decide) (fun c1 => ?_) (fun c1 => ?_)
    · refine G.sub (ls' := [some (.ref 72), some (.int pA), some (.int qA), some (.int (nI i)), none, none, none, none, none, none]) ?_ ⟨rfl, rfl, rfl, rfl, trivial⟩
      exact hp M i1 (tbm_mono i2 (fun a c _ _ h => by rcases h with h | h; exact Or.inl h; exact Or.inr ⟨h.1, by omega⟩))
    · exact absurd (by decide) c1
  | succ b ih =>
    intro M hb i1 i2
    have hmM : mgr M p q := by unfold mgr; rw [i1 72 (by decide)]; exact hm
    refine blk 7 [(.iload 4, 0, 0, 0)] [] (by decide +kernel) rfl (pc' := 39) (ls' := [some (.ref 72), some (.int pA), some (.int qA), some (.int (nI i)), some (.int (nI (b + 1) - nI 1)), none, none, none, none, none]) (st' := [.int (nI (b + 1) - nI 1)]) (M' := M) rfl ⟨trivial, trivial⟩ ?_
    refine g_if_lt (off := 112) (tgt := 151) (by decide +kernel) (by decide) (fun c1 => ?_) (fun c1 => ?_)
    · have nc1 : b < 0 := (nI_ltI (by omega) (by omega)).mp (by simpa only [nI_add, pk_mul, nI_s1, n0_lit] using c1)
      exact absurd (nI_s1 b ▸ c1) (nI_pos (by have := m4; omega))
    · have nc1 : 0 ≤ b := by
        have z : ¬ nI b < nI 0 := by simpa only [nI_add, pk_mul, nI_s1, n0_lit] using c1
        rw [nI_ltI (by omega) (by omega)] at z
        omega
      refine blk 7 [(.iconst 0, 0, 0, (nI 0)), (.istore 5, 0, 0, 0)] [] (by decide +kernel) rfl (pc' := 45) (ls' := [some (.ref 72), some (.int pA), some (.int qA), some (.int (nI i)), some (.int (nI (b + 1) - nI 1)), some (.int (nI 0)), none, none, none, none]) (st' := []) (M' := M) rfl ⟨trivial, trivial, trivial⟩ ?_
      rw [nI_s1]
      refine G.sub (ls' := [some (.ref 72), some (.int pA), some (.int qA), some (.int (nI i)), some (.int (nI b)), some (.int (nI 0)), none, none, none, none]) ?_ ⟨rfl, rfl, rfl, rfl, rfl, rfl, trivial⟩
      refine l_last (M := M) hmM hi (by omega) (fun N hf => ?_) _ 0 M rfl (by omega) (fun a h => absurd h (by omega)) (fun _ _ => rfl) (fun _ _ => rfl)
      refine blk 7 [(.iinc 4 (-1), 0, 0, (-1)), (.goto (-111), 37, 0, 0)] [] (by decide +kernel) rfl (pc' := 37) (ls' := [some (.ref 72), some (.int pA), some (.int qA), some (.int (nI i)), some (.int (nI b + (-1))), none, none, none, none, none]) (st' := []) (M' := N) rfl ⟨trivial, trivial, trivial⟩ ?_
      refine G.sub (ls' := [some (.ref 72), some (.int pA), some (.int qA), some (.int (nI i)), some (.int (nI b - nI 1)), none, none, none, none, none]) ?_ ⟨rfl, rfl, rfl, rfl, congrArg (fun z => some (Value.int z)) (dec1 _), trivial⟩
      refine ih N (by omega) (fun z hz => (hf.2.2 z hz).trans (i1 z hz)) ?_
      refine tbm_mono (tbm_step hf m4 (by omega) (fun a c h => ?_) i2) (fun a c _ _ h => ?_)
      · rcases h with h | h
        · exact Or.inl h
        · exact Or.inr ⟨h.1, by omega⟩
      · rcases h with h | h
        · exact Or.inl (Or.inl h)
        · by_cases e : c = b
          · exact Or.inr ⟨h.1, e⟩
          · exact Or.inl (Or.inr ⟨h.1, by omega⟩)
theorem l_mi {R : Mem} {p q : Nat} {pA qA : Int32} {Post : Option Value → Mem → Prop} (hm : mgr R p q) (hp : ∀ M, keepM R M → tbm M p q pA qA (fun _ _ => True) → G mX7_merge 157 [some (.ref 72), some (.int pA), some (.int qA), none, none, none, none, none, none, none] [] M Post) : ∀ a M, a ≤ p + 1 → keepM R M → tbm M p q pA qA (fun c _ => a ≤ c) → G mX7_merge 27 [some (.ref 72), some (.int pA), some (.int qA), some (.int (nI a - nI 1)), none, none, none, none, none, none] [] M Post := by
  have ⟨m1, m2, m3, m4⟩ := hm
  intro a
  induction a with
  | zero =>
    intro M hb i1 i2
    refine blk 7 [(.iload_n 3, 0, 0, 0)] [] (by decide +kernel) rfl (pc' := 28) (ls' := [some (.ref 72), some (.int pA), some (.int qA), some (.int (nI 0 - nI 1)), none, none, none, none, none, none]) (st' := [.int (nI 0 - nI 1)]) (M' := M) rfl ⟨trivial, trivial⟩ ?_
    refine g_if_lt (off := 129) (tgt := 157) (by decide +kernel) (by decide) (fun c1 => ?_) (fun c1 => ?_)
    · refine G.sub (ls' := [some (.ref 72), some (.int pA), some (.int qA), none, none, none, none, none, none, none]) ?_ ⟨rfl, rfl, rfl, trivial⟩
      exact hp M i1 (tbm_mono i2 (fun a c _ _ _ => by omega))
    · exact absurd (by decide) c1
  | succ a ih =>
    intro M hb i1 i2
    have hmM : mgr M p q := by unfold mgr; rw [i1 72 (by decide)]; exact hm
    refine blk 7 [(.iload_n 3, 0, 0, 0)] [] (by decide +kernel) rfl (pc' := 28) (ls' := [some (.ref 72), some (.int pA), some (.int qA), some (.int (nI (a + 1) - nI 1)), none, none, none, none, none, none]) (st' := [.int (nI (a + 1) - nI 1)]) (M' := M) rfl ⟨trivial, trivial⟩ ?_
    refine g_if_lt (off := 129) (tgt := 157) (by decide +kernel) (by decide) (fun c1 => ?_) (fun c1 => ?_)
    · have nc1 : a < 0 := (nI_ltI (by omega) (by omega)).mp (by simpa only [nI_add, pk_mul, nI_s1, n0_lit] using c1)
      exact absurd (nI_s1 a ▸ c1) (nI_pos (by have := m3; omega))
    · have nc1 : 0 ≤ a := by
        have z : ¬ nI a < nI 0 := by simpa only [nI_add, pk_mul, nI_s1, n0_lit] using c1
        rw [nI_ltI (by omega) (by omega)] at z
        omega
      refine blk 7 [(.aload_n 0, 0, 0, 0), (.getfield 127, 7, 28, 0), (.istore 4, 0, 0, 0)] [] (by decide +kernel) rfl (pc' := 37) (ls' := [some (.ref 72), some (.int pA), some (.int qA), some (.int (nI (a + 1) - nI 1)), some (.int (M 72 28)), none, none, none, none, none]) (st' := []) (M' := M) rfl ⟨trivial, rfl, trivial, trivial⟩ ?_
      refine G.sub (ls' := [some (.ref 72), some (.int pA), some (.int qA), some (.int (nI a)), some (.int (nI (q + 1) - nI 1)), none, none, none, none, none]) ?_ ⟨rfl, rfl, rfl, congrArg (fun z => some (Value.int z)) (nI_s1 a), congrArg (fun z => some (Value.int z)) (hmM.2.1.trans (nI_s1 q).symm), trivial⟩
      refine l_mj hm (by omega) (fun N k1 k2 => ?_) (q + 1) M (Nat.le_refl _) i1 (tbm_mono i2 (fun c d _ hd h => by rcases h with h | h; exact (by omega); exact absurd h.2 (by omega)))
      refine blk 7 [(.iinc 3 (-1), 0, 0, (-1)), (.goto (-127), 27, 0, 0)] [] (by decide +kernel) rfl (pc' := 27) (ls' := [some (.ref 72), some (.int pA), some (.int qA), some (.int (nI a + (-1))), none, none, none, none, none, none]) (st' := []) (M' := N) rfl ⟨trivial, trivial, trivial⟩ ?_
      refine G.sub (ls' := [some (.ref 72), some (.int pA), some (.int qA), some (.int (nI a - nI 1)), none, none, none, none, none, none]) ?_ ⟨rfl, rfl, rfl, congrArg (fun z => some (Value.int z)) (dec1 _), trivial⟩
      exact ih N (by omega) k1 (tbm_mono k2 (fun c d _ _ h => by rcases Nat.lt_or_ge a c with z | z; exact Or.inl z; exact Or.inr ⟨by omega, by omega⟩))
