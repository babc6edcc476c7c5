/-! the reference: merge, plainFactors, alone, mergeWords -/
def mwlk (T : Mem) (p q : Nat) (pA qA : Int32) (n : Nat) : Prop := n ≤ p + q ∧ (mst T p q pA qA n).1 = p ∧ (mst T p q pA qA n).2.1 = q ∧ ∀ k, k < n → ((mst T p q pA qA k).1 ≤ p ∧ (mst T p q pA qA k).2.1 ≤ q ∧ ((mst T p q pA qA k).1 < p ∨ (mst T p q pA qA k).2.1 < q))
def mergeP (M : Mem) (p q : Nat) : Option Value → Mem → Prop := fun r F => ∃ (R T : Mem) (n : Nat), prepP M p q none R ∧ keepM R T ∧ tbm T p q (psum (whF M (M 72 25) 39) 5) (psum (whF M (M 72 26) 39) 5) (fun _ _ => True) ∧ mwlk T p q (psum (whF M (M 72 25) 39) 5) (psum (whF M (M 72 26) 39) 5) n ∧ r = some (.int (T 40 0)) ∧ F 72 31 = nI n ∧
  (∀ k w, k < n → w < 5 → F 92 (60 * w + k) = mcv M (mst T p q (psum (whF M (M 72 25) 39) 5) (psum (whF M (M 72 26) 39) 5) k).1 (mst T p q (psum (whF M (M 72 25) 39) 5) (psum (whF M (M 72 26) 39) 5) k).2.1 (mst T p q (psum (whF M (M 72 25) 39) 5) (psum (whF M (M 72 26) 39) 5) (k + 1)).2.2 w) ∧
  (∀ z, z ≠ 72 → z ≠ 40 → (z < 92 ∨ 95 < z) → F z = M z) ∧ ∀ f, f ≠ 31 → F 72 f = M 72 f
theorem s_mmerge (M : Mem) {p q : Nat} (hp6 : p ≤ 60) (hq6 : q ≤ 60) (hpq : p + q ≤ 60) (hc : mcell M p q) (hp : M 72 27 = nI p) (hq : M 72 28 = nI q) : Spec mX7_merge [.ref 72] M (mergeP M p q) := by
  refine Spec.of (by decide) (by simp [Value.category]) (Nat.le_of_ble_eq_true rfl) ?_
  refine blk 7 [(.aload_n 0, 0, 0, 0)] [] (by decide +kernel) rfl (pc' := 1) (ls' := [some (.ref 72), none, none, none, none, none, none, none, none, none]) (st' := [.ref 72]) (M' := M) rfl ⟨trivial, trivial⟩ ?_
  refine g_callV (s_prepare M (p := p) (q := q) hp6 hq6 hc hp hq) ok_X7_merge_X7_prepare (by decide +kernel) rfl (c := 7) rfl (by decide) rfl (Nat.le_of_ble_eq_true rfl) (fun r R h => ?_) rfl
  have hR : prepP M p q none R := by have e := h.1; rw [e] at h; exact h
  rw [h.1]
  have e72 : R 72 = M 72 := hR.2.2.2.2 72 (by omega)
  have e39 : R 39 = M 39 := hR.2.2.2.2 39 (by omega)
  have eA : ∀ S, psum (whF R S 39) 5 = psum (whF M S 39) 5 := fun S => psum_congr (fun j _ => by unfold whF; rw [e39])
  show G _ 4 [some (.ref 72), none, none, none, none, none, none, none, none, none] [] R _
  refine blk 7 [(.aload_n 0, 0, 0, 0), (.aload_n 0, 0, 0, 0), (.getfield 118, 7, 25, 0)] [] (by decide +kernel) rfl (pc' := 9) (ls' := [some (.ref 72), none, none, none, none, none, none, none, none, none]) (st' := [.int (R 72 25), .ref 72]) (M' := R) rfl ⟨trivial, trivial, rfl, trivial⟩ ?_
  refine g_callV (s_wos R (R 72 25)) ok_X7_merge_X7_weightOfSet (by decide +kernel) rfl (c := 7) rfl (by decide) rfl (Nat.le_of_ble_eq_true rfl) (fun r M' h => ?_) rfl
  obtain ⟨hr, hM⟩ := h
  rw [hr, hM]
  show G _ 12 [some (.ref 72), none, none, none, none, none, none, none, none, none] [.int (psum (whF R (R 72 25) 39) 5)] R _
  rw [eA, show R 72 25 = M 72 25 by rw [e72]]
  refine blk 7 [(.istore_n 1, 0, 0, 0), (.aload_n 0, 0, 0, 0), (.aload_n 0, 0, 0, 0), (.getfield 124, 7, 26, 0)] [] (by decide +kernel) rfl (pc' := 18) (ls' := [some (.ref 72), some (.int (psum (whF M (M 72 25) 39) 5)), none, none, none, none, none, none, none, none]) (st' := [.int (R 72 26), .ref 72]) (M' := R) rfl ⟨trivial, trivial, trivial, rfl, trivial⟩ ?_
  refine g_callV (s_wos R (R 72 26)) ok_X7_merge_X7_weightOfSet (by decide +kernel) rfl (c := 7) rfl (by decide) rfl (Nat.le_of_ble_eq_true rfl) (fun r M' h => ?_) rfl
  obtain ⟨hr, hM⟩ := h
  rw [hr, hM]
  show G _ 21 [some (.ref 72), some (.int (psum (whF M (M 72 25) 39) 5)), none, none, none, none, none, none, none, none] [.int (psum (whF R (R 72 26) 39) 5)] R _
  rw [eA, show R 72 26 = M 72 26 by rw [e72]]
  refine blk 7 [(.istore_n 2, 0, 0, 0), (.aload_n 0, 0, 0, 0), (.getfield 121, 7, 27, 0), (.istore_n 3, 0, 0, 0)] [] (by decide +kernel) rfl (pc' := 27) (ls' := [some (.ref 72), some (.int (psum (whF M (M 72 25) 39) 5)), some (.int (psum (whF M (M 72 26) 39) 5)), some (.int (R 72 27)), none, none, none, none, none, none]) (st' := []) (M' := R) rfl ⟨trivial, trivial, rfl, trivial, trivial⟩ ?_
  have hm : mgr R p q := by unfold mgr; rw [e72]; exact ⟨hp, hq, hp6, hq6⟩
  refine G.sub (ls' := [some (.ref 72), some (.int (psum (whF M (M 72 25) 39) 5)), some (.int (psum (whF M (M 72 26) 39) 5)), some (.int (nI (p + 1) - nI 1)), none, none, none, none, none, none]) ?_ ⟨rfl, rfl, rfl, congrArg (fun z => some (Value.int z)) (hm.1.trans (nI_s1 p).symm), trivial⟩
  refine l_mi hm (fun T k1 k2 => ?_) (p + 1) R (Nat.le_refl _) (fun _ _ => rfl) (fun i j l hi _ _ h => absurd h (by omega))
  have hmT : mgr T p q := by unfold mgr; rw [k1 72 (by decide)]; exact hm
  refine blk 7 [(.aload_n 0, 0, 0, 0), (.iload_n 1, 0, 0, 0), (.iload_n 2, 0, 0, 0)] [] (by decide +kernel) rfl (pc' := 160) (ls' := [some (.ref 72), some (.int (psum (whF M (M 72 25) 39) 5)), some (.int (psum (whF M (M 72 26) 39) 5)), none, none, none, none, none, none, none]) (st' := [.int (psum (whF M (M 72 26) 39) 5), .int (psum (whF M (M 72 25) 39) 5), .ref 72]) (M' := T) rfl ⟨trivial, trivial, trivial, trivial⟩ ?_
  refine g_callV (s_mwalk T (p := p) (q := q) (psum (whF M (M 72 25) 39) 5) (psum (whF M (M 72 26) 39) 5) hmT hpq (tbm_ok k2)) ok_X7_merge_X7_walk (by decide +kernel) rfl (c := 7) rfl (by decide) rfl (Nat.le_of_ble_eq_true rfl) (fun r F h => ?_) rfl
  obtain ⟨hr, n, n1, n2, n3, n4, f1, f2, f3⟩ := h
  rw [hr]
  show G _ 163 [some (.ref 72), some (.int (psum (whF M (M 72 25) 39) 5)), some (.int (psum (whF M (M 72 26) 39) 5)), none, none, none, none, none, none, none] [] F _
  refine blk 7 [(.aload_n 0, 0, 0, 0), (.getfield 83, 7, 36, 0), (.aload_n 0, 0, 0, 0), (.iconst 0, 0, 0, (nI 0)), (.iconst 0, 0, 0, (nI 0)), (.iconst 0, 0, 0, (nI 0))] [] (by decide +kernel) rfl (pc' := 171) (ls' := [some (.ref 72), some (.int (psum (whF M (M 72 25) 39) 5)), some (.int (psum (whF M (M 72 26) 39) 5)), none, none, none, none, none, none, none]) (st' := [.int (nI 0), .int (nI 0), .int (nI 0), .ref 72, .ref 40]) (M' := F) rfl ⟨trivial, rfl, trivial, trivial, trivial, trivial, trivial⟩ ?_
  refine g_callV (s_entry F _ _ _) ok_X7_merge_X7_entry (by decide +kernel) rfl (c := 7) rfl (by decide) rfl (Nat.le_of_ble_eq_true rfl) (fun r M' h => ?_) rfl
  obtain ⟨hr, hM⟩ := h
  rw [hr, hM]
  show G _ 174 [some (.ref 72), some (.int (psum (whF M (M 72 25) 39) 5)), some (.int (psum (whF M (M 72 26) 39) 5)), none, none, none, none, none, none, none] [.int (nI 3 * (nI 61 * (nI 0) + (nI 0)) + (nI 0)), .ref 40] F _
  refine blk 7 [(.iaload, 0, 0, 0)] [0] (by decide +kernel) rfl (pc' := 175) (ls' := [some (.ref 72), some (.int (psum (whF M (M 72 25) 39) 5)), some (.int (psum (whF M (M 72 26) 39) 5)), none, none, none, none, none, none, none]) (st' := [.int (F 40 0)]) (M' := F) rfl ⟨⟨(by decide), (by decide)⟩, trivial⟩ ?_
  refine g_ireturn (by decide +kernel) rfl rfl ⟨R, T, n, hR, k1, k2, ⟨n1, n2, n3, n4⟩, ?_, f1, fun k w hk hw => ?_, fun z h1 h2 h3 => ?_, fun f hf => ?_⟩
  · rw [f3.1 40 (by decide) (by decide)]
  · rw [f2 k w hk hw]; unfold mcv; rw [k1 72 (by decide), k1 90 (by decide), k1 91 (by decide), e72, hR.2.2.2.2 90 (by omega), hR.2.2.2.2 91 (by omega)]
  · rw [f3.1 z h1 (by omega), k1 z h2, hR.2.2.2.2 z (by omega)]
  · rw [f3.2 f hf, k1 72 (by decide), e72]
theorem l_plain {M : Mem} : ∀ d i N, d = 5 - i → i ≤ 5 → (∀ a, a < i → N 39 a = 1) → (∀ z, z ≠ 39 → N z = M z) → G mX7_plainFactors 2 [some (.ref 72), some (.int (nI i))] [] N (fun r N => r = none ∧ (∀ a, a < 5 → N 39 a = 1) ∧ ∀ z, z ≠ 39 → N z = M z) := by
  intro d
  induction d using Nat.strongRecOn with
  | ind d ih =>
    intro i N hd hi j1 j2
    refine blk 7 [(.iload_n 1, 0, 0, 0), (.iconst 5, 0, 0, (nI 5))] [] (by decide +kernel) rfl (pc' := 4) (ls' := [some (.ref 72), some (.int (nI i))]) (st' := [.int (nI 5), .int (nI i)]) (M' := N) rfl ⟨trivial, trivial, trivial⟩ ?_
    refine g_icmp_ge (off := 16) (tgt := 20) (by decide +kernel) (by decide) (fun c1 => ?_) (fun c1 => ?_)
    · have nc1 : 5 ≤ i := (nI_leI (by omega) (by omega)).mp (by simpa only [nI_add, pk_mul, nI_s1, n0_lit] using c1)
      have e : i = 5 := by omega
      subst e
      exact g_return (by decide +kernel) rfl ⟨rfl, j1, j2⟩
    · have nc1 : i < 5 := by
        have z : ¬ nI 5 ≤ nI i := by simpa only [nI_add, pk_mul, nI_s1, n0_lit] using c1
        rw [nI_leI (by omega) (by omega)] at z
        omega
      refine blk 7 [(.aload_n 0, 0, 0, 0), (.getfield 86, 7, 37, 0), (.iload_n 1, 0, 0, 0), (.iconst 1, 0, 0, (nI 1)), (.iastore, 0, 0, 0), (.iinc 1 1, 0, 0, (nI 1)), (.goto (-15), 2, 0, 0)] [i] (by decide +kernel) rfl (pc' := 2) (ls' := [some (.ref 72), some (.int (nI i + nI 1))]) (st' := []) (M' := stm N 39 i (nI 1)) rfl ⟨trivial, rfl, trivial, trivial, ⟨rfl, (by show _ < 5; omega), by decide⟩, trivial, trivial, trivial⟩ ?_
      refine G.sub (ls' := [some (.ref 72), some (.int (nI (i + 1)))]) ?_ ⟨rfl, congrArg (fun z => some (Value.int z)) (by simp only [nI_add, nI_s1]), trivial⟩
      refine ih (d - 1) (by omega) (i + 1) _ (by omega) (by omega) (fun a ha => ?_) (fun z hz => by rw [stm_ne hz]; exact j2 z hz)
      by_cases e : a = i
      · subst e; rw [stm_self]; exact n1_lit
      · rw [stm_off e]; exact j1 a (by omega)
theorem s_plain (M : Mem) : Spec mX7_plainFactors [.ref 72] M (fun r N => r = none ∧ (∀ a, a < 5 → N 39 a = 1) ∧ ∀ z, z ≠ 39 → N z = M z) := by
  refine Spec.of (by decide) (by simp [Value.category]) (Nat.le_of_ble_eq_true rfl) ?_
  refine blk 7 [(.iconst 0, 0, 0, (nI 0)), (.istore_n 1, 0, 0, 0)] [] (by decide +kernel) rfl (pc' := 2) (ls' := [some (.ref 72), some (.int (nI 0))]) (st' := []) (M' := M) rfl ⟨trivial, trivial, trivial⟩ ?_
  exact l_plain _ 0 M rfl (by omega) (fun a h => absurd h (by omega)) (fun _ _ => rfl)
def aloneP (M : Mem) (c f wf i n : Nat) : Option Value → Mem → Prop := fun r N => r = none ∧ N 72 f = nI 1 <<< (nI i &&& 31) ∧ N 72 wf = nI n ∧ (∀ a, a < n → N c (60 * i + a) = M 74 (12 * i + a)) ∧ (∀ g, g ≠ f → g ≠ wf → N 72 g = M 72 g) ∧ ∀ z, z ≠ 72 → z ≠ c → N z = M z
theorem l_alone1 {M : Mem} {i n : Nat} (hi : i < 5) (hn12 : n ≤ 12) (hn0 : M 73 i = nI n) : ∀ d k N, d = n - k → k ≤ n → (∀ a, a < k → N 90 (60 * i + a) = M 74 (12 * i + a)) → (∀ z, z ≠ 90 → N z = M z) → G mX7_alone 2 [some (.ref 72), some (.int (nI 1)), some (.int (nI i)), some (.int (nI k))] [] N (aloneP M 90 25 27 i n) := by
  intro d
  induction d using Nat.strongRecOn with
  | ind d ih =>
    intro k N hd hk j1 j2
    have hn : N 73 i = nI n := by rw [j2 73 (by decide)]; exact hn0
    refine blk 7 [(.iload_n 3, 0, 0, 0), (.aload_n 0, 0, 0, 0), (.getfield 7, 7, 1, 0), (.iload_n 2, 0, 0, 0), (.iaload, 0, 0, 0)] [i] (by decide +kernel) rfl (pc' := 9) (ls' := [some (.ref 72), some (.int (nI 1)), some (.int (nI i)), some (.int (nI k))]) (st' := [.int (N 73 i), .int (nI k)]) (M' := N) rfl ⟨trivial, trivial, rfl, trivial, ⟨rfl, (by show _ < 5; omega)⟩, trivial⟩ ?_
    refine g_icmp_ge (off := 60) (tgt := 69) (by decide +kernel) (by decide) (fun c1 => ?_) (fun c1 => ?_)
    · have nc1 : n ≤ k := (nI_leI (by omega) (by omega)).mp (by simpa only [hn, nI_add, pk_mul, nI_s1, n0_lit] using c1)
      refine blk 7 [(.iload_n 1, 0, 0, 0)] [] (by decide +kernel) rfl (pc' := 70) (ls' := [some (.ref 72), some (.int (nI 1)), some (.int (nI i)), some (.int (nI k))]) (st' := [.int (nI 1)]) (M' := N) rfl ⟨trivial, trivial⟩ ?_
      refine g_if_eq (off := 23) (tgt := 93) (by decide +kernel) (by decide) (fun c2 => ?_) (fun c2 => ?_)
      · exact absurd c2 (by decide +kernel)
      · refine blk 7 [(.aload_n 0, 0, 0, 0), (.iconst 1, 0, 0, (nI 1)), (.iload_n 2, 0, 0, 0), (.ishl, 0, 0, 0), (.putfield 118, 7, 25, 0), (.aload_n 0, 0, 0, 0), (.aload_n 0, 0, 0, 0), (.getfield 7, 7, 1, 0), (.iload_n 2, 0, 0, 0), (.iaload, 0, 0, 0), (.putfield 121, 7, 27, 0), (.goto (20), 110, 0, 0)] [i] (by decide +kernel) rfl (pc' := 110) (ls' := [some (.ref 72), some (.int (nI 1)), some (.int (nI i)), some (.int (nI k))]) (st' := []) (M' := stm (stm N 72 25 ((nI 1) <<< ((nI i) &&& 31))) 72 27 (N 73 i)) rfl ⟨trivial, trivial, trivial, trivial, rfl, trivial, trivial, rfl, trivial, ⟨rfl, (by show _ < 5; omega)⟩, rfl, trivial, trivial⟩ ?_
        have e : k = n := by omega
        subst e
        refine g_return (by decide +kernel) rfl ⟨rfl, ?_, ?_, ?_, ?_, ?_⟩
        · rw [stm_off (by decide), stm_self]
        · rw [stm_self]; exact hn
        · intro a ha; rw [stm_ne (by decide), stm_ne (by decide)]; exact j1 a ha
        · intro g h1 h2; rw [stm_off h2, stm_off h1, j2 72 (by decide)]
        · intro z h1 h2; rw [stm_ne h1, stm_ne h1]; exact j2 z h2
    · have nc1 : k < n := by
        have z : ¬ nI n ≤ nI k := by simpa only [hn, nI_add, pk_mul, nI_s1, n0_lit] using c1
        rw [nI_leI (by omega) (by omega)] at z
        omega
      refine blk 7 [(.iload_n 1, 0, 0, 0)] [] (by decide +kernel) rfl (pc' := 13) (ls' := [some (.ref 72), some (.int (nI 1)), some (.int (nI i)), some (.int (nI k))]) (st' := [.int (nI 1)]) (M' := N) rfl ⟨trivial, trivial⟩ ?_
      refine g_if_eq (off := 28) (tgt := 41) (by decide +kernel) (by decide) (fun c3 => ?_) (fun c3 => ?_)
      · exact absurd c3 (by decide +kernel)
      · refine blk 7 [(.aload_n 0, 0, 0, 0), (.getfield 65, 7, 29, 0), (.bipush 60, 0, 0, (nI 60)), (.iload_n 2, 0, 0, 0), (.imul, 0, 0, 0), (.iload_n 3, 0, 0, 0), (.iadd, 0, 0, 0), (.aload_n 0, 0, 0, 0), (.getfield 13, 7, 2, 0), (.bipush 12, 0, 0, (nI 12)), (.iload_n 2, 0, 0, 0), (.imul, 0, 0, 0), (.iload_n 3, 0, 0, 0), (.iadd, 0, 0, 0), (.iaload, 0, 0, 0), (.iastore, 0, 0, 0), (.goto (25), 63, 0, 0), (.iinc 3 1, 0, 0, (nI 1)), (.goto (-64), 2, 0, 0)] [12 * i + k, 60 * i + k] (by decide +kernel) rfl (pc' := 2) (ls' := [some (.ref 72), some (.int (nI 1)), some (.int (nI i)), some (.int (nI k + nI 1))]) (st' := []) (M' := stm N 90 (60 * i + k) (N 74 (12 * i + k))) rfl ⟨trivial, rfl, trivial, trivial, trivial, trivial, trivial, trivial, rfl, trivial, trivial, trivial, trivial, trivial, ⟨(by simp only [hn, nI_add, pk_mul, nI_s1, Nat.reduceAdd, Nat.reduceMul]), (by show _ < 60; omega)⟩, ⟨(by simp only [hn, nI_add, pk_mul, nI_s1, Nat.reduceAdd, Nat.reduceMul]), (by show _ < 300; omega), by decide⟩, trivial, trivial, trivial, trivial⟩ ?_
        refine G.sub (ls' := [some (.ref 72), some (.int (nI 1)), some (.int (nI i)), some (.int (nI (k + 1)))]) ?_ ⟨rfl, rfl, rfl, congrArg (fun z => some (Value.int z)) (by simp only [nI_add, nI_s1]), trivial⟩
        refine ih (d - 1) (by omega) (k + 1) _ (by omega) (by omega) (fun a ha => ?_) (fun z hz => by rw [stm_ne hz]; exact j2 z hz)
        by_cases e : a = k
        · subst e; rw [stm_self, j2 74 (by decide)]
        · rw [stm_off (by omega)]; exact j1 a (by omega)
theorem s_alone1 (M : Mem) {i n : Nat} (hi : i < 5) (hn12 : n ≤ 12) (hn : M 73 i = nI n) : Spec mX7_alone [.ref 72, .int (nI 1), .int (nI i)] M (aloneP M 90 25 27 i n) := by
  refine Spec.of (by decide) (by simp [Value.category]) (Nat.le_of_ble_eq_true rfl) ?_
  refine blk 7 [(.iconst 0, 0, 0, (nI 0)), (.istore_n 3, 0, 0, 0)] [] (by decide +kernel) rfl (pc' := 2) (ls' := [some (.ref 72), some (.int (nI 1)), some (.int (nI i)), some (.int (nI 0))]) (st' := []) (M' := M) rfl ⟨trivial, trivial, trivial⟩ ?_
  exact l_alone1 hi hn12 hn _ 0 M rfl (by omega) (fun a h => absurd h (by omega)) (fun _ _ => rfl)
theorem l_alone0 {M : Mem} {i n : Nat} (hi : i < 5) (hn12 : n ≤ 12) (hn0 : M 73 i = nI n) : ∀ d k N, d = n - k → k ≤ n → (∀ a, a < k → N 91 (60 * i + a) = M 74 (12 * i + a)) → (∀ z, z ≠ 91 → N z = M z) → G mX7_alone 2 [some (.ref 72), some (.int (nI 0)), some (.int (nI i)), some (.int (nI k))] [] N (aloneP M 91 26 28 i n) := by
  intro d
  induction d using Nat.strongRecOn with
  | ind d ih =>
    intro k N hd hk j1 j2
    have hn : N 73 i = nI n := by rw [j2 73 (by decide)]; exact hn0
    refine blk 7 [(.iload_n 3, 0, 0, 0), (.aload_n 0, 0, 0, 0), (.getfield 7, 7, 1, 0), (.iload_n 2, 0, 0, 0), (.iaload, 0, 0, 0)] [i] (by decide +kernel) rfl (pc' := 9) (ls' := [some (.ref 72), some (.int (nI 0)), some (.int (nI i)), some (.int (nI k))]) (st' := [.int (N 73 i), .int (nI k)]) (M' := N) rfl ⟨trivial, trivial, rfl, trivial, ⟨rfl, (by show _ < 5; omega)⟩, trivial⟩ ?_
    refine g_icmp_ge (off := 60) (tgt := 69) (by decide +kernel) (by decide) (fun c1 => ?_) (fun c1 => ?_)
    · have nc1 : n ≤ k := (nI_leI (by omega) (by omega)).mp (by simpa only [hn, nI_add, pk_mul, nI_s1, n0_lit] using c1)
      refine blk 7 [(.iload_n 1, 0, 0, 0)] [] (by decide +kernel) rfl (pc' := 70) (ls' := [some (.ref 72), some (.int (nI 0)), some (.int (nI i)), some (.int (nI k))]) (st' := [.int (nI 0)]) (M' := N) rfl ⟨trivial, trivial⟩ ?_
      refine g_if_eq (off := 23) (tgt := 93) (by decide +kernel) (by decide) (fun c2 => ?_) (fun c2 => ?_)
      · refine blk 7 [(.aload_n 0, 0, 0, 0), (.iconst 1, 0, 0, (nI 1)), (.iload_n 2, 0, 0, 0), (.ishl, 0, 0, 0), (.putfield 124, 7, 26, 0), (.aload_n 0, 0, 0, 0), (.aload_n 0, 0, 0, 0), (.getfield 7, 7, 1, 0), (.iload_n 2, 0, 0, 0), (.iaload, 0, 0, 0), (.putfield 127, 7, 28, 0)] [i] (by decide +kernel) rfl (pc' := 110) (ls' := [some (.ref 72), some (.int (nI 0)), some (.int (nI i)), some (.int (nI k))]) (st' := []) (M' := stm (stm N 72 26 ((nI 1) <<< ((nI i) &&& 31))) 72 28 (N 73 i)) rfl ⟨trivial, trivial, trivial, trivial, rfl, trivial, trivial, rfl, trivial, ⟨rfl, (by show _ < 5; omega)⟩, rfl, trivial⟩ ?_
        have e : k = n := by omega
        subst e
        refine g_return (by decide +kernel) rfl ⟨rfl, ?_, ?_, ?_, ?_, ?_⟩
        · rw [stm_off (by decide), stm_self]
        · rw [stm_self]; exact hn
        · intro a ha; rw [stm_ne (by decide), stm_ne (by decide)]; exact j1 a ha
        · intro g h1 h2; rw [stm_off h2, stm_off h1, j2 72 (by decide)]
        · intro z h1 h2; rw [stm_ne h1, stm_ne h1]; exact j2 z h2
      · exact absurd (by decide +kernel) c2
    · have nc1 : k < n := by
        have z : ¬ nI n ≤ nI k := by simpa only [hn, nI_add, pk_mul, nI_s1, n0_lit] using c1
        rw [nI_leI (by omega) (by omega)] at z
        omega
      refine blk 7 [(.iload_n 1, 0, 0, 0)] [] (by decide +kernel) rfl (pc' := 13) (ls' := [some (.ref 72), some (.int (nI 0)), some (.int (nI i)), some (.int (nI k))]) (st' := [.int (nI 0)]) (M' := N) rfl ⟨trivial, trivial⟩ ?_
      refine g_if_eq (off := 28) (tgt := 41) (by decide +kernel) (by decide) (fun c3 => ?_) (fun c3 => ?_)
      · refine blk 7 [(.aload_n 0, 0, 0, 0), (.getfield 68, 7, 30, 0), (.bipush 60, 0, 0, (nI 60)), (.iload_n 2, 0, 0, 0), (.imul, 0, 0, 0), (.iload_n 3, 0, 0, 0), (.iadd, 0, 0, 0), (.aload_n 0, 0, 0, 0), (.getfield 13, 7, 2, 0), (.bipush 12, 0, 0, (nI 12)), (.iload_n 2, 0, 0, 0), (.imul, 0, 0, 0), (.iload_n 3, 0, 0, 0), (.iadd, 0, 0, 0), (.iaload, 0, 0, 0), (.iastore, 0, 0, 0), (.iinc 3 1, 0, 0, (nI 1)), (.goto (-64), 2, 0, 0)] [12 * i + k, 60 * i + k] (by decide +kernel) rfl (pc' := 2) (ls' := [some (.ref 72), some (.int (nI 0)), some (.int (nI i)), some (.int (nI k + nI 1))]) (st' := []) (M' := stm N 91 (60 * i + k) (N 74 (12 * i + k))) rfl ⟨trivial, rfl, trivial, trivial, trivial, trivial, trivial, trivial, rfl, trivial, trivial, trivial, trivial, trivial, ⟨(by simp only [hn, nI_add, pk_mul, nI_s1, Nat.reduceAdd, Nat.reduceMul]), (by show _ < 60; omega)⟩, ⟨(by simp only [hn, nI_add, pk_mul, nI_s1, Nat.reduceAdd, Nat.reduceMul]), (by show _ < 300; omega), by decide⟩, trivial, trivial, trivial⟩ ?_
        refine G.sub (ls' := [some (.ref 72), some (.int (nI 0)), some (.int (nI i)), some (.int (nI (k + 1)))]) ?_ ⟨rfl, rfl, rfl, congrArg (fun z => some (Value.int z)) (by simp only [nI_add, nI_s1]), trivial⟩
        refine ih (d - 1) (by omega) (k + 1) _ (by omega) (by omega) (fun a ha => ?_) (fun z hz => by rw [stm_ne hz]; exact j2 z hz)
        by_cases e : a = k
        · subst e; rw [stm_self, j2 74 (by decide)]
        · rw [stm_off (by omega)]; exact j1 a (by omega)
      · exact absurd (by decide +kernel) c3
theorem s_alone0 (M : Mem) {i n : Nat} (hi : i < 5) (hn12 : n ≤ 12) (hn : M 73 i = nI n) : Spec mX7_alone [.ref 72, .int (nI 0), .int (nI i)] M (aloneP M 91 26 28 i n) := by
  refine Spec.of (by decide) (by simp [Value.category]) (Nat.le_of_ble_eq_true rfl) ?_
  refine blk 7 [(.iconst 0, 0, 0, (nI 0)), (.istore_n 3, 0, 0, 0)] [] (by decide +kernel) rfl (pc' := 2) (ls' := [some (.ref 72), some (.int (nI 0)), some (.int (nI i)), some (.int (nI 0))]) (st' := []) (M' := M) rfl ⟨trivial, trivial, trivial⟩ ?_
  exact l_alone0 hi hn12 hn _ 0 M rfl (by omega) (fun a h => absurd h (by omega)) (fun _ _ => rfl)
