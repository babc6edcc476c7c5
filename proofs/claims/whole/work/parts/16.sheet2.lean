/-! sheets: sumOverPairs, spread -/
theorem l_sop235 {M : Mem} {n W i : Nat} {A : Int32} {Post : Option Value → Mem → Prop} (hn : n ≤ 5) (hw : W ≤ 60) (hW : ∀ a, a < n → M (51 + a) 1 = nI W) (hc : ∀ a b, a < n → b < W → okc (M (51 + a + 5) b)) (hi : i < n) (hp : G mX3_sumOverPairs 6 [some (.ref 35), some (.int (nI n)), some (.ref 2), some (.ref 24), some (.int (A + psum (sopF M 51 W i) (n - (i + 1)))), some (.int (nI (i + 1))), none] [] M Post) : ∀ d m, d = n - (i + 1) - m → m ≤ n - (i + 1) → G mX3_sumOverPairs 18 [some (.ref 35), some (.int (nI n)), some (.ref 2), some (.ref 24), some (.int (A + psum (sopF M 51 W i) m)), some (.int (nI i)), some (.int (nI (i + 1 + m)))] [] M Post := by
  intro d
  induction d using Nat.strongRecOn with
  | ind d ih =>
    intro m hd hj
    refine blk 3 [(.iload 6, 0, 0, 0), (.iload_n 1, 0, 0, 0)] [] (by decide +kernel) rfl (pc' := 21) (ls' := [some (.ref 35), some (.int (nI n)), some (.ref 2), some (.ref 24), some (.int (A + psum (sopF M 51 W i) m)), some (.int (nI i)), some (.int (nI (i + 1 + m)))]) (st' := [.int (nI n), .int (nI (i + 1 + m))]) (M' := M) rfl ⟨trivial, trivial, trivial⟩ ?_
    refine g_icmp_ge (off := 42) (tgt := 63) (by decide +kernel) (by decide) (fun c1 => ?_) (fun c1 => ?_)
    · have nc1 : n ≤ (i + 1 + m) := (nI_leI (by omega) (by omega)).mp (by simpa only [nI_add, pk_mul, nI_s1, n0_lit] using c1)
      refine blk 3 [(.iinc 5 1, 0, 0, (nI 1)), (.goto (-60), 6, 0, 0)] [] (by decide +kernel) rfl (pc' := 6) (ls' := [some (.ref 35), some (.int (nI n)), some (.ref 2), some (.ref 24), some (.int (A + psum (sopF M 51 W i) m)), some (.int (nI i + nI 1)), some (.int (nI (i + 1 + m)))]) (st' := []) (M' := M) rfl ⟨trivial, trivial, trivial⟩ ?_
      have e : m = n - (i + 1) := by omega
      subst e
      refine G.sub (ls' := [some (.ref 35), some (.int (nI n)), some (.ref 2), some (.ref 24), some (.int (A + psum (sopF M 51 W i) (n - (i + 1)))), some (.int (nI (i + 1))), none]) ?_ ⟨rfl, rfl, rfl, rfl, congrArg (fun z => some (Value.int z)) rfl, congrArg (fun z => some (Value.int z)) (by simp only [nI_add, nI_s1]), trivial⟩
      exact hp
    · have nc1 : (i + 1 + m) < n := by
        have z : ¬ nI n ≤ nI (i + 1 + m) := by simpa only [nI_add, pk_mul, nI_s1, n0_lit] using c1
        rw [nI_leI (by omega) (by omega)] at z
        omega
      refine blk 3 [(.iload 4, 0, 0, 0), (.aload_n 3, 0, 0, 0), (.iload 5, 0, 0, 0), (.iaload, 0, 0, 0), (.aload_n 3, 0, 0, 0), (.iload 6, 0, 0, 0), (.iaload, 0, 0, 0), (.imul, 0, 0, 0), (.aload_n 0, 0, 0, 0), (.getfield 11, 3, 0, 0), (.iload 5, 0, 0, 0), (.aaload, 0, 0, 0), (.aload_n 0, 0, 0, 0), (.getfield 11, 3, 0, 0), (.iload 6, 0, 0, 0), (.aaload, 0, 0, 0), (.aload_n 2, 0, 0, 0)] [i, i + 1 + m, i, i + 1 + m] (by decide +kernel) rfl (pc' := 50) (ls' := [some (.ref 35), some (.int (nI n)), some (.ref 2), some (.ref 24), some (.int (A + psum (sopF M 51 W i) m)), some (.int (nI i)), some (.int (nI (i + 1 + m)))]) (st' := [.ref 2, .ref (51 + (i + 1 + m)), .ref (51 + i), .int ((M 24 i) * (M 24 (i + 1 + m))), .int (A + psum (sopF M 51 W i) m)]) (M' := M) rfl ⟨trivial, trivial, trivial, ⟨rfl, (by show _ < 5; omega)⟩, trivial, trivial, ⟨rfl, (by show _ < 5; omega)⟩, trivial, trivial, rfl, trivial, ⟨rfl, (by show _ < 5; omega)⟩, trivial, rfl, trivial, ⟨rfl, (by show _ < 5; omega)⟩, trivial, trivial⟩ ?_
      refine g_callV (s_beside M (t := 51 + i) (u := 51 + (i + 1 + m)) (w := W) (kd51 (by omega)) (kd51 (by omega)) (hW i (by omega)) (by rw [al56 (by omega)]; exact hw) (by rw [al56 (by omega)]; exact hw) (fun k hk => hc i k (by omega) hk) (fun k hk => hc _ k (by omega) hk)) ok_X3_sumOverPairs_X2_scoreBeside (by decide +kernel) rfl (c := 2) (kd51 (by omega)) (by decide) rfl (Nat.le_of_ble_eq_true rfl) (fun r M' h => ?_) rfl
      obtain ⟨hr, hM⟩ := h
      rw [hr, hM]
      show G _ 53 [some (.ref 35), some (.int (nI n)), some (.ref 2), some (.ref 24), some (.int (A + psum (sopF M 51 W i) m)), some (.int (nI i)), some (.int (nI (i + 1 + m)))] [.int ((sbF (M 3) (M 2 1) (M 2 2) (M (51 + i + 5)) (M (51 + (i + 1 + m) + 5)) W).1), .int ((M 24 i) * (M 24 (i + 1 + m))), .int (A + psum (sopF M 51 W i) m)] M _
      refine blk 3 [(.imul, 0, 0, 0), (.iadd, 0, 0, 0), (.istore 4, 0, 0, 0), (.iinc 6 1, 0, 0, (nI 1)), (.goto (-42), 18, 0, 0)] [] (by decide +kernel) rfl (pc' := 18) (ls' := [some (.ref 35), some (.int (nI n)), some (.ref 2), some (.ref 24), some (.int ((A + psum (sopF M 51 W i) m) + (((M 24 i) * (M 24 (i + 1 + m))) * ((sbF (M 3) (M 2 1) (M 2 2) (M (51 + i + 5)) (M (51 + (i + 1 + m) + 5)) W).1)))), some (.int (nI i)), some (.int (nI (i + 1 + m) + nI 1))]) (st' := []) (M' := M) rfl ⟨trivial, trivial, trivial, trivial, trivial, trivial⟩ ?_
      refine G.sub (ls' := [some (.ref 35), some (.int (nI n)), some (.ref 2), some (.ref 24), some (.int (A + psum (sopF M 51 W i) (m + 1))), some (.int (nI i)), some (.int (nI (i + 1 + (m + 1))))]) ?_ ⟨rfl, rfl, rfl, rfl, congrArg (fun z => some (Value.int z)) (by rw [psum, ← Int32.add_assoc]; rfl), rfl, congrArg (fun z => some (Value.int z)) (by rw [nI_add]; congr 1), trivial⟩
      exact ih (d - 1) (by omega) (m + 1) (by omega) (by omega)
theorem l_sop35 {M : Mem} {n W : Nat} (hn : n ≤ 5) (hw : W ≤ 60) (hW : ∀ a, a < n → M (51 + a) 1 = nI W) (hc : ∀ a b, a < n → b < W → okc (M (51 + a + 5) b)) : ∀ d i, d = n - i → i ≤ n → G mX3_sumOverPairs 6 [some (.ref 35), some (.int (nI n)), some (.ref 2), some (.ref 24), some (.int (psum (fun i => psum (sopF M 51 W i) (n - (i + 1))) i)), some (.int (nI i)), none] [] M (Ret (psum (fun i => psum (sopF M 51 W i) (n - (i + 1))) n) M) := by
  intro d
  induction d using Nat.strongRecOn with
  | ind d ih =>
    intro i hd hj
    refine blk 3 [(.iload 5, 0, 0, 0), (.iload_n 1, 0, 0, 0)] [] (by decide +kernel) rfl (pc' := 9) (ls' := [some (.ref 35), some (.int (nI n)), some (.ref 2), some (.ref 24), some (.int (psum (fun i => psum (sopF M 51 W i) (n - (i + 1))) i)), some (.int (nI i)), none]) (st' := [.int (nI n), .int (nI i)]) (M' := M) rfl ⟨trivial, trivial, trivial⟩ ?_
    refine g_icmp_ge (off := 60) (tgt := 69) (by decide +kernel) (by decide) (fun c1 => ?_) (fun c1 => ?_)
    · have nc1 : n ≤ i := (nI_leI (by omega) (by omega)).mp (by simpa only [nI_add, pk_mul, nI_s1, n0_lit] using c1)
      refine blk 3 [(.iload 4, 0, 0, 0)] [] (by decide +kernel) rfl (pc' := 71) (ls' := [some (.ref 35), some (.int (nI n)), some (.ref 2), some (.ref 24), some (.int (psum (fun i => psum (sopF M 51 W i) (n - (i + 1))) i)), some (.int (nI i)), none]) (st' := [.int (psum (fun i => psum (sopF M 51 W i) (n - (i + 1))) i)]) (M' := M) rfl ⟨trivial, trivial⟩ ?_
      have e : i = n := by omega
      subst e
      exact g_ireturn (by decide +kernel) rfl rfl ⟨rfl, rfl⟩
    · have nc1 : i < n := by
        have z : ¬ nI n ≤ nI i := by simpa only [nI_add, pk_mul, nI_s1, n0_lit] using c1
        rw [nI_leI (by omega) (by omega)] at z
        omega
      refine blk 3 [(.iload 5, 0, 0, 0), (.iconst 1, 0, 0, (nI 1)), (.iadd, 0, 0, 0), (.istore 6, 0, 0, 0)] [] (by decide +kernel) rfl (pc' := 18) (ls' := [some (.ref 35), some (.int (nI n)), some (.ref 2), some (.ref 24), some (.int (psum (fun i => psum (sopF M 51 W i) (n - (i + 1))) i)), some (.int (nI i)), some (.int ((nI i) + (nI 1)))]) (st' := []) (M' := M) rfl ⟨trivial, trivial, trivial, trivial, trivial⟩ ?_
      refine G.sub (ls' := [some (.ref 35), some (.int (nI n)), some (.ref 2), some (.ref 24), some (.int (psum (fun i => psum (sopF M 51 W i) (n - (i + 1))) i + psum (sopF M 51 W i) 0)), some (.int (nI i)), some (.int (nI (i + 1 + 0)))]) ?_ ⟨rfl, rfl, rfl, rfl, congrArg (fun z => some (Value.int z)) (Int32.add_zero _).symm, rfl, congrArg (fun z => some (Value.int z)) (nI_add _ _), trivial⟩
      exact l_sop235 hn hw hW hc (by omega) (ih (d - 1) (by omega) (i + 1) (by omega) (by omega)) _ 0 rfl (by omega)
theorem s_sop35 (M : Mem) {n W : Nat} (hn : n ≤ 5) (hw : W ≤ 60) (hW : ∀ a, a < n → M (51 + a) 1 = nI W) (hc : ∀ a b, a < n → b < W → okc (M (51 + a + 5) b)) : Spec mX3_sumOverPairs [.ref 35, .int (nI n), .ref 2, .ref 24] M (Ret (psum (fun i => psum (sopF M 51 W i) (n - (i + 1))) n) M) := by
  refine Spec.of (by decide) (by simp [Value.category]) (Nat.le_of_ble_eq_true rfl) ?_
  refine blk 3 [(.iconst 0, 0, 0, (nI 0)), (.istore 4, 0, 0, 0), (.iconst 0, 0, 0, (nI 0)), (.istore 5, 0, 0, 0)] [] (by decide +kernel) rfl (pc' := 6) (ls' := [some (.ref 35), some (.int (nI n)), some (.ref 2), some (.ref 24), some (.int (nI 0)), some (.int (nI 0)), none]) (st' := []) (M' := M) rfl ⟨trivial, trivial, trivial, trivial, trivial⟩ ?_
  exact l_sop35 hn hw hW hc _ 0 rfl (by omega)
/-- what spreading a group's rows does: the rows of the words in S, in the first m of a sheet -/
def sprJ1 (M N : Mem) (B n : Nat) (S g : Int32) (m : Nat) : Prop := ∀ a, a < m → ¬ hb S a = 0 → N (B + a) 1 = nI n ∧ ∀ j, j < n → N (B + a + 5) j = if M 15 j = g then -1 else M (B + a + 5) (ncnt (M 15) g j)
def sprJ2 (M N : Mem) (B : Nat) (S : Int32) (m : Nat) : Prop := ∀ z, (∀ a, a < m → ¬ hb S a = 0 → z ≠ B + a ∧ z ≠ B + a + 5) → N z = M z
theorem l_sspread35 {M0 : Mem} {n : Nat} {S g : Int32} (hn : n ≤ 60) (hw : ∀ a, a < 5 → ¬ hb S a = 0 → M0 (51 + a) 1 = nI (ncnt (M0 15) g n)) : ∀ d i M, d = 5 - i → i ≤ 5 → sprJ1 M0 M 51 n S g i → sprJ2 M0 M 51 S i → G mX3_spread 3 [some (.ref 35), some (.int S), some (.ref 15), some (.int (nI n)), some (.int g), some (.int (nI i))] [] M (fun r N => r = none ∧ sprJ1 M0 N 51 n S g 5 ∧ sprJ2 M0 N 51 S 5) := by
  intro d
  induction d using Nat.strongRecOn with
  | ind d ih =>
    intro i M hd hj j1 j2
    refine blk 3 [(.iload 5, 0, 0, 0), (.iconst 5, 0, 0, (nI 5))] [] (by decide +kernel) rfl (pc' := 6) (ls' := [some (.ref 35), some (.int S), some (.ref 15), some (.int (nI n)), some (.int g), some (.int (nI i))]) (st' := [.int (nI 5), .int (nI i)]) (M' := M) rfl ⟨trivial, trivial, trivial⟩ ?_
    refine g_icmp_ge (off := 32) (tgt := 38) (by decide +kernel) (by decide) (fun c1 => ?_) (fun c1 => ?_)
    · have nc1 : 5 ≤ i := (nI_leI (by omega) (by omega)).mp (by simpa only [nI_add, pk_mul, nI_s1, n0_lit] using c1)
      have e : i = 5 := by omega
      subst e
      exact g_return (by decide +kernel) rfl ⟨rfl, j1, j2⟩
    · have nc1 : i < 5 := by
        have z : ¬ nI 5 ≤ nI i := by simpa only [nI_add, pk_mul, nI_s1, n0_lit] using c1
        rw [nI_leI (by omega) (by omega)] at z
        omega
      refine blk 3 [(.iload_n 1, 0, 0, 0), (.iload 5, 0, 0, 0)] [] (by decide +kernel) rfl (pc' := 12) (ls' := [some (.ref 35), some (.int S), some (.ref 15), some (.int (nI n)), some (.int g), some (.int (nI i))]) (st' := [.int (nI i), .int S]) (M' := M) rfl ⟨trivial, trivial, trivial⟩ ?_
      refine g_callN (index := 28) (s_holds _ S i) rfl (by decide) ⟨ok_X6_holds.1, ok_X6_holds.2.1, ok_X6_holds.2.2.1, ok_X6_holds.2.2.2, by decide +kernel, by decide +kernel⟩ (by decide +kernel) rfl (Nat.le_of_ble_eq_true rfl) (fun r M' h => ?_) rfl
      obtain ⟨hr, hM⟩ := h
      rw [hr, hM]
      show G _ 15 [some (.ref 35), some (.int S), some (.ref 15), some (.int (nI n)), some (.int g), some (.int (nI i))] [.int (hb S i)] M _
      refine g_if_eq (off := 17) (tgt := 32) (by decide +kernel) (by decide) (fun c2 => ?_) (fun c2 => ?_)
      · refine blk 3 [(.iinc 5 1, 0, 0, (nI 1)), (.goto (-32), 3, 0, 0)] [] (by decide +kernel) rfl (pc' := 3) (ls' := [some (.ref 35), some (.int S), some (.ref 15), some (.int (nI n)), some (.int g), some (.int (nI i + nI 1))]) (st' := []) (M' := M) rfl ⟨trivial, trivial, trivial⟩ ?_
        refine G.sub (ls' := [some (.ref 35), some (.int S), some (.ref 15), some (.int (nI n)), some (.int g), some (.int (nI (i + 1)))]) ?_ ⟨rfl, rfl, rfl, rfl, rfl, congrArg (fun z => some (Value.int z)) (by simp only [nI_add, nI_s1]), trivial⟩
        refine ih (d - 1) (by omega) (i + 1) M (by omega) (by omega) (fun a h1 h2 => ?_) (fun z hz => j2 z (fun a h1 h2 => hz a (by omega) h2))
        by_cases e : a = i
        · subst e; exact absurd c2 h2
        · exact j1 a (by omega) h2
      · refine blk 3 [(.aload_n 0, 0, 0, 0), (.getfield 11, 3, 0, 0), (.iload 5, 0, 0, 0), (.aaload, 0, 0, 0), (.aload_n 2, 0, 0, 0), (.iload_n 3, 0, 0, 0), (.iload 4, 0, 0, 0)] [i] (by decide +kernel) rfl (pc' := 29) (ls' := [some (.ref 35), some (.int S), some (.ref 15), some (.int (nI n)), some (.int g), some (.int (nI i))]) (st' := [.int g, .int (nI n), .ref 15, .ref (51 + i)]) (M' := M) rfl ⟨trivial, rfl, trivial, ⟨rfl, (by show _ < 5; omega)⟩, trivial, trivial, trivial, trivial⟩ ?_
        have e15 : M 15 = M0 15 := j2 15 (fun a _ _ => by omega)
        have eB : M (51 + i) = M0 (51 + i) := j2 _ (fun a _ _ => by omega)
        have eC : M (51 + i + 5) = M0 (51 + i + 5) := j2 _ (fun a _ _ => by omega)
        refine g_callV (s_rspread M (t := 51 + i) (n := n) (w := ncnt (M0 15) g n) (g := g) (kd51 (by omega)) (by rw [eB]; exact hw i (by omega) c2) (by rw [e15]) hn (by rw [al56 (by omega)]; omega) (by omega) (by omega)) ok_X3_spread_X2_spread (by decide +kernel) rfl (c := 2) (kd51 (by omega)) (by decide) rfl (Nat.le_of_ble_eq_true rfl) (fun r N h => ?_) rfl
        obtain ⟨hr, q1, q2, q3⟩ := h
        rw [hr]
        rw [e15, eC] at q2
        show G _ 32 [some (.ref 35), some (.int S), some (.ref 15), some (.int (nI n)), some (.int g), some (.int (nI i))] [] N _
        refine blk 3 [(.iinc 5 1, 0, 0, (nI 1)), (.goto (-32), 3, 0, 0)] [] (by decide +kernel) rfl (pc' := 3) (ls' := [some (.ref 35), some (.int S), some (.ref 15), some (.int (nI n)), some (.int g), some (.int (nI i + nI 1))]) (st' := []) (M' := N) rfl ⟨trivial, trivial, trivial⟩ ?_
        refine G.sub (ls' := [some (.ref 35), some (.int S), some (.ref 15), some (.int (nI n)), some (.int g), some (.int (nI (i + 1)))]) ?_ ⟨rfl, rfl, rfl, rfl, rfl, congrArg (fun z => some (Value.int z)) (by simp only [nI_add, nI_s1]), trivial⟩
        refine ih (d - 1) (by omega) (i + 1) N (by omega) (by omega) (fun a h1 h2 => ?_) (fun z hz => ?_)
        · by_cases e : a = i
          · subst e; exact ⟨q1, q2⟩
          · rw [q3 (51 + a) (by omega) (by omega), q3 (51 + a + 5) (by omega) (by omega)]; exact j1 a (by omega) h2
        · rw [q3 z (hz i (by omega) c2).1 (hz i (by omega) c2).2]; exact j2 z (fun a h1 h2 => hz a (by omega) h2)
theorem s_sspread35 (M : Mem) {n : Nat} {S g : Int32} (hn : n ≤ 60) (hw : ∀ a, a < 5 → ¬ hb S a = 0 → M (51 + a) 1 = nI (ncnt (M 15) g n)) : Spec mX3_spread [.ref 35, .int S, .ref 15, .int (nI n), .int g] M (fun r N => r = none ∧ sprJ1 M N 51 n S g 5 ∧ sprJ2 M N 51 S 5) := by
  refine Spec.of (by decide) (by simp [Value.category]) (Nat.le_of_ble_eq_true rfl) ?_
  refine blk 3 [(.iconst 0, 0, 0, (nI 0)), (.istore 5, 0, 0, 0)] [] (by decide +kernel) rfl (pc' := 3) (ls' := [some (.ref 35), some (.int S), some (.ref 15), some (.int (nI n)), some (.int g), some (.int (nI 0))]) (st' := []) (M' := M) rfl ⟨trivial, trivial, trivial⟩ ?_
  exact l_sspread35 hn hw _ 0 M rfl (by omega) (fun a h => absurd h (by omega)) (fun z _ => rfl)
theorem l_sop237 {M : Mem} {n W i : Nat} {A : Int32} {Post : Option Value → Mem → Prop} (hn : n ≤ 5) (hw : W ≤ 60) (hW : ∀ a, a < n → M (61 + a) 1 = nI W) (hc : ∀ a b, a < n → b < W → okc (M (61 + a + 5) b)) (hi : i < n) (hp : G mX3_sumOverPairs 6 [some (.ref 37), some (.int (nI n)), some (.ref 2), some (.ref 24), some (.int (A + psum (sopF M 61 W i) (n - (i + 1)))), some (.int (nI (i + 1))), none] [] M Post) : ∀ d m, d = n - (i + 1) - m → m ≤ n - (i + 1) → G mX3_sumOverPairs 18 [some (.ref 37), some (.int (nI n)), some (.ref 2), some (.ref 24), some (.int (A + psum (sopF M 61 W i) m)), some (.int (nI i)), some (.int (nI (i + 1 + m)))] [] M Post := by
  intro d
  induction d using Nat.strongRecOn with
  | ind d ih =>
    intro m hd hj
    refine blk 3 [(.iload 6, 0, 0, 0), (.iload_n 1, 0, 0, 0)] [] (by decide +kernel) rfl (pc' := 21) (ls' := [some (.ref 37), some (.int (nI n)), some (.ref 2), some (.ref 24), some (.int (A + psum (sopF M 61 W i) m)), some (.int (nI i)), some (.int (nI (i + 1 + m)))]) (st' := [.int (nI n), .int (nI (i + 1 + m))]) (M' := M) rfl ⟨trivial, trivial, trivial⟩ ?_
    refine g_icmp_ge (off := 42) (tgt := 63) (by decide +kernel) (by decide) (fun c1 => ?_) (fun c1 => ?_)
    · have nc1 : n ≤ (i + 1 + m) := (nI_leI (by omega) (by omega)).mp (by simpa only [nI_add, pk_mul, nI_s1, n0_lit] using c1)
      refine blk 3 [(.iinc 5 1, 0, 0, (nI 1)), (.goto (-60), 6, 0, 0)] [] (by decide +kernel) rfl (pc' := 6) (ls' := [some (.ref 37), some (.int (nI n)), some (.ref 2), some (.ref 24), some (.int (A + psum (sopF M 61 W i) m)), some (.int (nI i + nI 1)), some (.int (nI (i + 1 + m)))]) (st' := []) (M' := M) rfl ⟨trivial, trivial, trivial⟩ ?_
      have e : m = n - (i + 1) := by omega
      subst e
      refine G.sub (ls' := [some (.ref 37), some (.int (nI n)), some (.ref 2), some (.ref 24), some (.int (A + psum (sopF M 61 W i) (n - (i + 1)))), some (.int (nI (i + 1))), none]) ?_ ⟨rfl, rfl, rfl, rfl, congrArg (fun z => some (Value.int z)) rfl, congrArg (fun z => some (Value.int z)) (by simp only [nI_add, nI_s1]), trivial⟩
      exact hp
    · have nc1 : (i + 1 + m) < n := by
        have z : ¬ nI n ≤ nI (i + 1 + m) := by simpa only [nI_add, pk_mul, nI_s1, n0_lit] using c1
        rw [nI_leI (by omega) (by omega)] at z
        omega
      refine blk 3 [(.iload 4, 0, 0, 0), (.aload_n 3, 0, 0, 0), (.iload 5, 0, 0, 0), (.iaload, 0, 0, 0), (.aload_n 3, 0, 0, 0), (.iload 6, 0, 0, 0), (.iaload, 0, 0, 0), (.imul, 0, 0, 0), (.aload_n 0, 0, 0, 0), (.getfield 11, 3, 0, 0), (.iload 5, 0, 0, 0), (.aaload, 0, 0, 0), (.aload_n 0, 0, 0, 0), (.getfield 11, 3, 0, 0), (.iload 6, 0, 0, 0), (.aaload, 0, 0, 0), (.aload_n 2, 0, 0, 0)] [i, i + 1 + m, i, i + 1 + m] (by decide +kernel) rfl (pc' := 50) (ls' := [some (.ref 37), some (.int (nI n)), some (.ref 2), some (.ref 24), some (.int (A + psum (sopF M 61 W i) m)), some (.int (nI i)), some (.int (nI (i + 1 + m)))]) (st' := [.ref 2, .ref (61 + (i + 1 + m)), .ref (61 + i), .int ((M 24 i) * (M 24 (i + 1 + m))), .int (A + psum (sopF M 61 W i) m)]) (M' := M) rfl ⟨trivial, trivial, trivial, ⟨rfl, (by show _ < 5; omega)⟩, trivial, trivial, ⟨rfl, (by show _ < 5; omega)⟩, trivial, trivial, rfl, trivial, ⟨rfl, (by show _ < 5; omega)⟩, trivial, rfl, trivial, ⟨rfl, (by show _ < 5; omega)⟩, trivial, trivial⟩ ?_
      refine g_callV (s_beside M (t := 61 + i) (u := 61 + (i + 1 + m)) (w := W) (kd61 (by omega)) (kd61 (by omega)) (hW i (by omega)) (by rw [al66 (by omega)]; exact hw) (by rw [al66 (by omega)]; exact hw) (fun k hk => hc i k (by omega) hk) (fun k hk => hc _ k (by omega) hk)) ok_X3_sumOverPairs_X2_scoreBeside (by decide +kernel) rfl (c := 2) (kd61 (by omega)) (by decide) rfl (Nat.le_of_ble_eq_true rfl) (fun r M' h => ?_) rfl
      obtain ⟨hr, hM⟩ := h
      rw [hr, hM]
      show G _ 53 [some (.ref 37), some (.int (nI n)), some (.ref 2), some (.ref 24), some (.int (A + psum (sopF M 61 W i) m)), some (.int (nI i)), some (.int (nI (i + 1 + m)))] [.int ((sbF (M 3) (M 2 1) (M 2 2) (M (61 + i + 5)) (M (61 + (i + 1 + m) + 5)) W).1), .int ((M 24 i) * (M 24 (i + 1 + m))), .int (A + psum (sopF M 61 W i) m)] M _
      refine blk 3 [(.imul, 0, 0, 0), (.iadd, 0, 0, 0), (.istore 4, 0, 0, 0), (.iinc 6 1, 0, 0, (nI 1)), (.goto (-42), 18, 0, 0)] [] (by decide +kernel) rfl (pc' := 18) (ls' := [some (.ref 37), some (.int (nI n)), some (.ref 2), some (.ref 24), some (.int ((A + psum (sopF M 61 W i) m) + (((M 24 i) * (M 24 (i + 1 + m))) * ((sbF (M 3) (M 2 1) (M 2 2) (M (61 + i + 5)) (M (61 + (i + 1 + m) + 5)) W).1)))), some (.int (nI i)), some (.int (nI (i + 1 + m) + nI 1))]) (st' := []) (M' := M) rfl ⟨trivial, trivial, trivial, trivial, trivial, trivial⟩ ?_
      refine G.sub (ls' := [some (.ref 37), some (.int (nI n)), some (.ref 2), some (.ref 24), some (.int (A + psum (sopF M 61 W i) (m + 1))), some (.int (nI i)), some (.int (nI (i + 1 + (m + 1))))]) ?_ ⟨rfl, rfl, rfl, rfl, congrArg (fun z => some (Value.int z)) (by rw [psum, ← Int32.add_assoc]; rfl), rfl, congrArg (fun z => some (Value.int z)) (by rw [nI_add]; congr 1), trivial⟩
      exact ih (d - 1) (by omega) (m + 1) (by omega) (by omega)
theorem l_sop37 {M : Mem} {n W : Nat} (hn : n ≤ 5) (hw : W ≤ 60) (hW : ∀ a, a < n → M (61 + a) 1 = nI W) (hc : ∀ a b, a < n → b < W → okc (M (61 + a + 5) b)) : ∀ d i, d = n - i → i ≤ n → G mX3_sumOverPairs 6 [some (.ref 37), some (.int (nI n)), some (.ref 2), some (.ref 24), some (.int (psum (fun i => psum (sopF M 61 W i) (n - (i + 1))) i)), some (.int (nI i)), none] [] M (Ret (psum (fun i => psum (sopF M 61 W i) (n - (i + 1))) n) M) := by
  intro d
  induction d using Nat.strongRecOn with
  | ind d ih =>
    intro i hd hj
    refine blk 3 [(.iload 5, 0, 0, 0), (.iload_n 1, 0, 0, 0)] [] (by decide +kernel) rfl (pc' := 9) (ls' := [some (.ref 37), some (.int (nI n)), some (.ref 2), some (.ref 24), some (.int (psum (fun i => psum (sopF M 61 W i) (n - (i + 1))) i)), some (.int (nI i)), none]) (st' := [.int (nI n), .int (nI i)]) (M' := M) rfl ⟨trivial, trivial, trivial⟩ ?_
    refine g_icmp_ge (off := 60) (tgt := 69) (by decide +kernel) (by decide) (fun c1 => ?_) (fun c1 => ?_)
    · have nc1 : n ≤ i := (nI_leI (by omega) (by omega)).mp (by simpa only [nI_add, pk_mul, nI_s1, n0_lit] using c1)
      refine blk 3 [(.iload 4, 0, 0, 0)] [] (by decide +kernel) rfl (pc' := 71) (ls' := [some (.ref 37), some (.int (nI n)), some (.ref 2), some (.ref 24), some (.int (psum (fun i => psum (sopF M 61 W i) (n - (i + 1))) i)), some (.int (nI i)), none]) (st' := [.int (psum (fun i => psum (sopF M 61 W i) (n - (i + 1))) i)]) (M' := M) rfl ⟨trivial, trivial⟩ ?_
      have e : i = n := by omega
      subst e
      exact g_ireturn (by decide +kernel) rfl rfl ⟨rfl, rfl⟩
    · have nc1 : i < n := by
        have z : ¬ nI n ≤ nI i := by simpa only [nI_add, pk_mul, nI_s1, n0_lit] using c1
        rw [nI_leI (by omega) (by omega)] at z
        omega
      refine blk 3 [(.iload 5, 0, 0, 0), (.iconst 1, 0, 0, (nI 1)), (.iadd, 0, 0, 0), (.istore 6, 0, 0, 0)] [] (by decide +kernel) rfl (pc' := 18) (ls' := [some (.ref 37), some (.int (nI n)), some (.ref 2), some (.ref 24), some (.int (psum (fun i => psum (sopF M 61 W i) (n - (i + 1))) i)), some (.int (nI i)), some (.int ((nI i) + (nI 1)))]) (st' := []) (M' := M) rfl ⟨trivial, trivial, trivial, trivial, trivial⟩ ?_
      refine G.sub (ls' := [some (.ref 37), some (.int (nI n)), some (.ref 2), some (.ref 24), some (.int (psum (fun i => psum (sopF M 61 W i) (n - (i + 1))) i + psum (sopF M 61 W i) 0)), some (.int (nI i)), some (.int (nI (i + 1 + 0)))]) ?_ ⟨rfl, rfl, rfl, rfl, congrArg (fun z => some (Value.int z)) (Int32.add_zero _).symm, rfl, congrArg (fun z => some (Value.int z)) (nI_add _ _), trivial⟩
      exact l_sop237 hn hw hW hc (by omega) (ih (d - 1) (by omega) (i + 1) (by omega) (by omega)) _ 0 rfl (by omega)
theorem s_sop37 (M : Mem) {n W : Nat} (hn : n ≤ 5) (hw : W ≤ 60) (hW : ∀ a, a < n → M (61 + a) 1 = nI W) (hc : ∀ a b, a < n → b < W → okc (M (61 + a + 5) b)) : Spec mX3_sumOverPairs [.ref 37, .int (nI n), .ref 2, .ref 24] M (Ret (psum (fun i => psum (sopF M 61 W i) (n - (i + 1))) n) M) := by
  refine Spec.of (by decide) (by simp [Value.category]) (Nat.le_of_ble_eq_true rfl) ?_
  refine blk 3 [(.iconst 0, 0, 0, (nI 0)), (.istore 4, 0, 0, 0), (.iconst 0, 0, 0, (nI 0)), (.istore 5, 0, 0, 0)] [] (by decide +kernel) rfl (pc' := 6) (ls' := [some (.ref 37), some (.int (nI n)), some (.ref 2), some (.ref 24), some (.int (nI 0)), some (.int (nI 0)), none]) (st' := []) (M' := M) rfl ⟨trivial, trivial, trivial, trivial, trivial⟩ ?_
  exact l_sop37 hn hw hW hc _ 0 rfl (by omega)
theorem l_sspread37 {M0 : Mem} {n : Nat} {S g : Int32} (hn : n ≤ 60) (hw : ∀ a, a < 5 → ¬ hb S a = 0 → M0 (61 + a) 1 = nI (ncnt (M0 15) g n)) : ∀ d i M, d = 5 - i → i ≤ 5 → sprJ1 M0 M 61 n S g i → sprJ2 M0 M 61 S i → G mX3_spread 3 [some (.ref 37), some (.int S), some (.ref 15), some (.int (nI n)), some (.int g), some (.int (nI i))] [] M (fun r N => r = none ∧ sprJ1 M0 N 61 n S g 5 ∧ sprJ2 M0 N 61 S 5) := by
  intro d
  induction d using Nat.strongRecOn with
  | ind d ih =>
    intro i M hd hj j1 j2
    refine blk 3 [(.iload 5, 0, 0, 0), (.iconst 5, 0, 0, (nI 5))] [] (by decide +kernel) rfl (pc' := 6) (ls' := [some (.ref 37), some (.int S), some (.ref 15), some (.int (nI n)), some (.int g), some (.int (nI i))]) (st' := [.int (nI 5), .int (nI i)]) (M' := M) rfl ⟨trivial, trivial, trivial⟩ ?_
    refine g_icmp_ge (off := 32) (tgt := 38) (by decide +kernel) (by decide) (fun c1 => ?_) (fun c1 => ?_)
    · have nc1 : 5 ≤ i := (nI_leI (by omega) (by omega)).mp (by simpa only [nI_add, pk_mul, nI_s1, n0_lit] using c1)
      have e : i = 5 := by omega
      subst e
      exact g_return (by decide +kernel) rfl ⟨rfl, j1, j2⟩
    · have nc1 : i < 5 := by
        have z : ¬ nI 5 ≤ nI i := by simpa only [nI_add, pk_mul, nI_s1, n0_lit] using c1
        rw [nI_leI (by omega) (by omega)] at z
        omega
      refine blk 3 [(.iload_n 1, 0, 0, 0), (.iload 5, 0, 0, 0)] [] (by decide +kernel) rfl (pc' := 12) (ls' := [some (.ref 37), some (.int S), some (.ref 15), some (.int (nI n)), some (.int g), some (.int (nI i))]) (st' := [.int (nI i), .int S]) (M' := M) rfl ⟨trivial, trivial, trivial⟩ ?_
      refine g_callN (index := 28) (s_holds _ S i) rfl (by decide) ⟨ok_X6_holds.1, ok_X6_holds.2.1, ok_X6_holds.2.2.1, ok_X6_holds.2.2.2, by decide +kernel, by decide +kernel⟩ (by decide +kernel) rfl (Nat.le_of_ble_eq_true rfl) (fun r M' h => ?_) rfl
      obtain ⟨hr, hM⟩ := h
      rw [hr, hM]
      show G _ 15 [some (.ref 37), some (.int S), some (.ref 15), some (.int (nI n)), some (.int g), some (.int (nI i))] [.int (hb S i)] M _
      refine g_if_eq (off := 17) (tgt := 32) (by decide +kernel) (by decide) (fun c2 => ?_) (fun c2 => ?_)
      · refine blk 3 [(.iinc 5 1, 0, 0, (nI 1)), (.goto (-32), 3, 0, 0)] [] (by decide +kernel) rfl (pc' := 3) (ls' := [some (.ref 37), some (.int S), some (.ref 15), some (.int (nI n)), some (.int g), some (.int (nI i + nI 1))]) (st' := []) (M' := M) rfl ⟨trivial, trivial, trivial⟩ ?_
        refine G.sub (ls' := [some (.ref 37), some (.int S), some (.ref 15), some (.int (nI n)), some (.int g), some (.int (nI (i + 1)))]) ?_ ⟨rfl, rfl, rfl, rfl, rfl, congrArg (fun z => some (Value.int z)) (by simp only [nI_add, nI_s1]), trivial⟩
        refine ih (d - 1) (by omega) (i + 1) M (by omega) (by omega) (fun a h1 h2 => ?_) (fun z hz => j2 z (fun a h1 h2 => hz a (by omega) h2))
        by_cases e : a = i
        · subst e; exact absurd c2 h2
        · exact j1 a (by omega) h2
      · refine blk 3 [(.aload_n 0, 0, 0, 0), (.getfield 11, 3, 0, 0), (.iload 5, 0, 0, 0), (.aaload, 0, 0, 0), (.aload_n 2, 0, 0, 0), (.iload_n 3, 0, 0, 0), (.iload 4, 0, 0, 0)] [i] (by decide +kernel) rfl (pc' := 29) (ls' := [some (.ref 37), some (.int S), some (.ref 15), some (.int (nI n)), some (.int g), some (.int (nI i))]) (st' := [.int g, .int (nI n), .ref 15, .ref (61 + i)]) (M' := M) rfl ⟨trivial, rfl, trivial, ⟨rfl, (by show _ < 5; omega)⟩, trivial, trivial, trivial, trivial⟩ ?_
        have e15 : M 15 = M0 15 := j2 15 (fun a _ _ => by omega)
        have eB : M (61 + i) = M0 (61 + i) := j2 _ (fun a _ _ => by omega)
        have eC : M (61 + i + 5) = M0 (61 + i + 5) := j2 _ (fun a _ _ => by omega)
        refine g_callV (s_rspread M (t := 61 + i) (n := n) (w := ncnt (M0 15) g n) (g := g) (kd61 (by omega)) (by rw [eB]; exact hw i (by omega) c2) (by rw [e15]) hn (by rw [al66 (by omega)]; omega) (by omega) (by omega)) ok_X3_spread_X2_spread (by decide +kernel) rfl (c := 2) (kd61 (by omega)) (by decide) rfl (Nat.le_of_ble_eq_true rfl) (fun r N h => ?_) rfl
        obtain ⟨hr, q1, q2, q3⟩ := h
        rw [hr]
        rw [e15, eC] at q2
        show G _ 32 [some (.ref 37), some (.int S), some (.ref 15), some (.int (nI n)), some (.int g), some (.int (nI i))] [] N _
        refine blk 3 [(.iinc 5 1, 0, 0, (nI 1)), (.goto (-32), 3, 0, 0)] [] (by decide +kernel) rfl (pc' := 3) (ls' := [some (.ref 37), some (.int S), some (.ref 15), some (.int (nI n)), some (.int g), some (.int (nI i + nI 1))]) (st' := []) (M' := N) rfl ⟨trivial, trivial, trivial⟩ ?_
        refine G.sub (ls' := [some (.ref 37), some (.int S), some (.ref 15), some (.int (nI n)), some (.int g), some (.int (nI (i + 1)))]) ?_ ⟨rfl, rfl, rfl, rfl, rfl, congrArg (fun z => some (Value.int z)) (by simp only [nI_add, nI_s1]), trivial⟩
        refine ih (d - 1) (by omega) (i + 1) N (by omega) (by omega) (fun a h1 h2 => ?_) (fun z hz => ?_)
        · by_cases e : a = i
          · subst e; exact ⟨q1, q2⟩
          · rw [q3 (61 + a) (by omega) (by omega), q3 (61 + a + 5) (by omega) (by omega)]; exact j1 a (by omega) h2
        · rw [q3 z (hz i (by omega) c2).1 (hz i (by omega) c2).2]; exact j2 z (fun a h1 h2 => hz a (by omega) h2)
theorem s_sspread37 (M : Mem) {n : Nat} {S g : Int32} (hn : n ≤ 60) (hw : ∀ a, a < 5 → ¬ hb S a = 0 → M (61 + a) 1 = nI (ncnt (M 15) g n)) : Spec mX3_spread [.ref 37, .int S, .ref 15, .int (nI n), .int g] M (fun r N => r = none ∧ sprJ1 M N 61 n S g 5 ∧ sprJ2 M N 61 S 5) := by
  refine Spec.of (by decide) (by simp [Value.category]) (Nat.le_of_ble_eq_true rfl) ?_
  refine blk 3 [(.iconst 0, 0, 0, (nI 0)), (.istore 5, 0, 0, 0)] [] (by decide +kernel) rfl (pc' := 3) (ls' := [some (.ref 37), some (.int S), some (.ref 15), some (.int (nI n)), some (.int g), some (.int (nI 0))]) (st' := []) (M' := M) rfl ⟨trivial, trivial, trivial⟩ ?_
  exact l_sspread37 hn hw _ 0 M rfl (by omega) (fun a h => absurd h (by omega)) (fun z _ => rfl)
