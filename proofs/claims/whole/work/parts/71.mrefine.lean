/-! the reference's refine -/
theorem sb_congr {sc sc' : Nat → Int32} {op ex : Int32} {x y x' y' : Nat → Int32} : ∀ m, (∀ k, k < 16 → sc' k = sc k) → (∀ k, k < m → x' k = x k ∧ y' k = y k ∧ okc (x k) ∧ okc (y k)) → sbF sc' op ex x' y' m = sbF sc op ex x y m := by
  intro m
  induction m with
  | zero => intro _ _; rfl
  | succ m ih =>
    intro h1 h2
    obtain ⟨e1, e2, o1, o2⟩ := h2 m (by omega)
    rw [sbF, sbF, ih h1 (fun k hk => h2 k (by omega)), e1, e2]
    have hsc : ¬ x m = -1 → ¬ y m = -1 → sc' (cd (x m) * 4 + cd (y m)) = sc (cd (x m) * 4 + cd (y m)) := fun c1 c2 => by
      obtain ⟨a, ha, ea⟩ := o1.resolve_left c1
      obtain ⟨b, hb, eb⟩ := o2.resolve_left c2
      rw [ea, eb, cd_nI ha, cd_nI hb, h1 _ (by omega)]
    unfold sbS
    by_cases c1 : x m = -1
    · by_cases c2 : y m = -1
      · simp [c1, c2]
      · simp [c1, c2]
    · by_cases c2 : y m = -1
      · simp [c1, c2]
      · simp [c1, c2, hsc c1 c2]
theorem tot_same {C R : Mem} {B t W n : Nat} (h88 : ∀ i, i < n → R 88 i = C 24 i) (h77 : ∀ k, k < 16 → R 77 k = C 3 k) (h6 : R 72 6 = C 2 1) (h7 : R 72 7 = C 2 2) (hr : ∀ a k, a < n → k < W → R t (60 * a + k) = C (B + a + 5) k ∧ okc (C (B + a + 5) k)) : mtot R t W n = totC C B W n := by
  unfold mtot totC
  refine psum_congr (fun i hi => psum_congr (fun j hj => ?_))
  unfold msoF sopF rwM
  rw [h88 i hi, h88 (i + 1 + j) (by omega), h6, h7, sb_congr W h77 (fun k hk => ⟨(hr i k hi hk).1, (hr (i + 1 + j) k (by omega) hk).1, (hr i k hi hk).2, (hr (i + 1 + j) k (by omega) hk).2⟩)]
theorem mh_kp {C R : Mem} {B n i k : Nat} (hn : n ≤ 5) (hi : i < n) (h : ∀ a, a < n → R 89 (60 * a + k) = C (B + a + 5) k) : anyB (mhF R k i) n = kpF C B n i k := by
  have e : (anyB (mhF R k i) n = true) ↔ (kpF C B n i k = true) := by
    rw [anyB_iff, kp_iff hn hi]
    constructor
    · rintro ⟨a, ha, hx⟩
      have hx := of_decide_eq_true hx
      exact ⟨a, ha, hx.1, by rw [← h a ha]; exact hx.2⟩
    · rintro ⟨a, ha, h1, h2⟩
      exact ⟨a, ha, decide_eq_true ⟨h1, by rw [h a ha]; exact h2⟩⟩
  cases h1 : anyB (mhF R k i) n <;> cases h2 : kpF C B n i k <;> simp_all
theorem l_rr2 {B : Mem} {n i k p : Nat} {Post : Option Value → Mem → Prop} (hn : B 72 0 = nI n) (hn5 : n ≤ 5) (hk : k < 60) (hp60 : p < 60) (hpw : B 72 27 = nI p) (hp : ∀ N, (∀ a, a < n → N 90 (60 * a + p) = B 89 (60 * a + k)) → (∀ x, (∀ a, a < n → x ≠ 60 * a + p) → N 90 x = B 90 x) → (∀ z, z ≠ 90 → N z = B z) → G mX7_refine 112 [some (.ref 72), some (.int (nI i)), some (.int (nI k)), none] [] N Post) : ∀ d a N, d = n - a → a ≤ n → (∀ y, y < a → N 90 (60 * y + p) = B 89 (60 * y + k)) → (∀ x, (∀ y, y < a → x ≠ 60 * y + p) → N 90 x = B 90 x) → (∀ z, z ≠ 90 → N z = B z) → G mX7_refine 73 [some (.ref 72), some (.int (nI i)), some (.int (nI k)), some (.int (nI a))] [] N Post := by
  intro d
  induction d using Nat.strongRecOn with
  | ind d ih =>
    intro a N hd ha j1 j2 j3
    have hnN : N 72 0 = nI n := by rw [j3 72 (by decide)]; exact hn
    have hpN : N 72 27 = nI p := by rw [j3 72 (by decide)]; exact hpw
    refine blk 7 [(.iload_n 3, 0, 0, 0), (.aload_n 0, 0, 0, 0), (.getfield 103, 7, 0, 0)] [] (by decide +kernel) rfl (pc' := 78) (ls' := [some (.ref 72), some (.int (nI i)), some (.int (nI k)), some (.int (nI a))]) (st' := [.int (N 72 0), .int (nI a)]) (M' := N) rfl ⟨trivial, trivial, rfl, trivial⟩ ?_
    refine g_icmp_ge (off := 34) (tgt := 112) (by decide +kernel) (by decide) (fun c1 => ?_) (fun c1 => ?_)
    · have nc1 : n ≤ a := (nI_leI (by omega) (by omega)).mp (by simpa only [hpN, hnN, nI_add, pk_mul, nI_s1, n0_lit] using c1)
      have e : a = n := by omega
      subst e
      refine G.sub (ls' := [some (.ref 72), some (.int (nI i)), some (.int (nI k)), none]) ?_ ⟨rfl, rfl, rfl, trivial⟩
      exact hp N j1 j2 j3
    · have nc1 : a < n := by
        have z : ¬ nI n ≤ nI a := by simpa only [hpN, hnN, nI_add, pk_mul, nI_s1, n0_lit] using c1
        rw [nI_leI (by omega) (by omega)] at z
        omega
      refine blk 7 [(.aload_n 0, 0, 0, 0), (.getfield 65, 7, 29, 0), (.bipush 60, 0, 0, (nI 60)), (.iload_n 3, 0, 0, 0), (.imul, 0, 0, 0), (.aload_n 0, 0, 0, 0), (.getfield 121, 7, 27, 0), (.iadd, 0, 0, 0), (.aload_n 0, 0, 0, 0), (.getfield 62, 7, 24, 0), (.bipush 60, 0, 0, (nI 60)), (.iload_n 3, 0, 0, 0), (.imul, 0, 0, 0), (.iload_n 2, 0, 0, 0), (.iadd, 0, 0, 0), (.iaload, 0, 0, 0), (.iastore, 0, 0, 0), (.iinc 3 1, 0, 0, (nI 1)), (.goto (-36), 73, 0, 0)] [60 * a + k, 60 * a + p] (by decide +kernel) rfl (pc' := 73) (ls' := [some (.ref 72), some (.int (nI i)), some (.int (nI k)), some (.int (nI a + nI 1))]) (st' := []) (M' := stm N 90 (60 * a + p) (N 89 (60 * a + k))) rfl ⟨trivial, rfl, trivial, trivial, trivial, trivial, rfl, trivial, trivial, rfl, trivial, trivial, trivial, trivial, trivial, ⟨(by simp only [hpN, hnN, nI_add, pk_mul, nI_s1, Nat.reduceAdd, Nat.reduceMul]), (by show _ < 300; omega)⟩, ⟨(by simp only [hpN, hnN, nI_add, pk_mul, nI_s1, Nat.reduceAdd, Nat.reduceMul]), (by show _ < 300; omega), by decide⟩, trivial, trivial, trivial⟩ ?_
      refine G.sub (ls' := [some (.ref 72), some (.int (nI i)), some (.int (nI k)), some (.int (nI (a + 1)))]) ?_ ⟨rfl, rfl, rfl, congrArg (fun z => some (Value.int z)) (by simp only [nI_add, nI_s1]), trivial⟩
      refine ih (d - 1) (by omega) (a + 1) _ (by omega) (by omega) (fun y hy => ?_) (fun y hy => ?_) (fun z hz => by rw [stm_ne hz]; exact j3 z hz)
      · by_cases e : y = a
        · subst e; rw [stm_self, j3 89 (by decide)]
        · rw [stm_off (by omega)]; exact j1 y (by omega)
      · rw [stm_off (hy a (by omega))]; exact j2 y (fun u hu => hy u (by omega))
theorem l_rr3 {N : Mem} {i k : Nat} {Post : Option Value → Mem → Prop} (hp : G mX7_refine 54 [some (.ref 72), some (.int (nI i)), some (.int (nI (k + 1))), none] [] (stm N 72 27 (N 72 27 + nI 1)) Post) : G mX7_refine 112 [some (.ref 72), some (.int (nI i)), some (.int (nI k)), none] [] N Post := by
  refine blk 7 [(.aload_n 0, 0, 0, 0), (.dup, 0, 0, 0), (.getfield 121, 7, 27, 0), (.iconst 1, 0, 0, (nI 1)), (.iadd, 0, 0, 0), (.putfield 121, 7, 27, 0), (.iinc 2 1, 0, 0, (nI 1)), (.goto (-71), 54, 0, 0)] [] (by decide +kernel) rfl (pc' := 54) (ls' := [some (.ref 72), some (.int (nI i)), some (.int (nI k + nI 1)), none]) (st' := []) (M' := stm N 72 27 ((N 72 27) + (nI 1))) rfl ⟨trivial, rfl, rfl, trivial, trivial, rfl, trivial, trivial, trivial⟩ ?_
  refine G.sub (ls' := [some (.ref 72), some (.int (nI i)), some (.int (nI (k + 1))), none]) ?_ ⟨rfl, rfl, congrArg (fun z => some (Value.int z)) (by simp only [nI_add, nI_s1]), trivial⟩
  exact hp
theorem l_rr1 {M : Mem} {n i W : Nat} {kp : Nat → Bool} {Post : Option Value → Mem → Prop} (hn : M 72 0 = nI n) (hn5 : n ≤ 5) (hi : i < n) (hW : M 72 23 = nI W) (hW6 : W ≤ 60) (hkp : ∀ c, c < W → anyB (mhF M c i) n = kp c) (hp : ∀ N, N 72 27 = nI (bcnt kp W) → (∀ a c, a < n → c < W → kp c = true → N 90 (60 * a + bcnt kp c) = M 89 (60 * a + c)) → ((∀ f, f ≠ 27 → N 72 f = M 72 f) ∧ ∀ z, z ≠ 72 → z ≠ 90 → N z = M z) → G mX7_refine 128 [some (.ref 72), some (.int (nI i)), none, none] [] N Post) : ∀ d k N, d = W - k → k ≤ W → N 72 27 = nI (bcnt kp k) → (∀ a c, a < n → c < k → kp c = true → N 90 (60 * a + bcnt kp c) = M 89 (60 * a + c)) → ((∀ f, f ≠ 27 → N 72 f = M 72 f) ∧ ∀ z, z ≠ 72 → z ≠ 90 → N z = M z) → G mX7_refine 54 [some (.ref 72), some (.int (nI i)), some (.int (nI k)), none] [] N Post := by
  intro d
  induction d using Nat.strongRecOn with
  | ind d ih =>
    intro k N hd hk jp j1 j2
    have hnN : N 72 0 = nI n := by rw [j2.1 0 (by decide)]; exact hn
    have hWN : N 72 23 = nI W := by rw [j2.1 23 (by decide)]; exact hW
    have hkN : k < W → anyB (mhF N k i) n = kp k := fun hx => by rw [← hkp k hx]; exact anyB_congr (fun a _ => by unfold mhF; rw [j2.2 89 (by decide) (by decide)])
    refine blk 7 [(.iload_n 2, 0, 0, 0), (.aload_n 0, 0, 0, 0), (.getfield 93, 7, 23, 0)] [] (by decide +kernel) rfl (pc' := 59) (ls' := [some (.ref 72), some (.int (nI i)), some (.int (nI k)), none]) (st' := [.int (N 72 23), .int (nI k)]) (M' := N) rfl ⟨trivial, trivial, rfl, trivial⟩ ?_
    refine g_icmp_ge (off := 69) (tgt := 128) (by decide +kernel) (by decide) (fun c1 => ?_) (fun c1 => ?_)
    · have nc1 : W ≤ k := (nI_leI (by omega) (by omega)).mp (by simpa only [hWN, nI_add, pk_mul, nI_s1, n0_lit] using c1)
      have e : k = W := by omega
      subst e
      refine G.sub (ls' := [some (.ref 72), some (.int (nI i)), none, none]) ?_ ⟨rfl, rfl, trivial⟩
      exact hp N jp j1 j2
    · have nc1 : k < W := by
        have z : ¬ nI W ≤ nI k := by simpa only [hWN, nI_add, pk_mul, nI_s1, n0_lit] using c1
        rw [nI_leI (by omega) (by omega)] at z
        omega
      refine blk 7 [(.aload_n 0, 0, 0, 0), (.iload_n 2, 0, 0, 0), (.iload_n 1, 0, 0, 0)] [] (by decide +kernel) rfl (pc' := 65) (ls' := [some (.ref 72), some (.int (nI i)), some (.int (nI k)), none]) (st' := [.int (nI i), .int (nI k), .ref 72]) (M' := N) rfl ⟨trivial, trivial, trivial, trivial⟩ ?_
      refine g_callV (s_mhas N (n := n) (k := k) (i := i) hnN hn5 (by omega) (by omega)) ok_X7_refine_X7_hasLetter (by decide +kernel) rfl (c := 7) rfl (by decide) rfl (Nat.le_of_ble_eq_true rfl) (fun r M' h => ?_) rfl
      obtain ⟨hr, hM⟩ := h
      rw [hr, hM]
      show G _ 68 [some (.ref 72), some (.int (nI i)), some (.int (nI k)), none] [.int (bI (anyB (mhF N k i) n))] N _
      refine g_if_eq (off := 54) (tgt := 122) (by decide +kernel) (by decide) (fun c2 => ?_) (fun c2 => ?_)
      · refine blk 7 [(.iinc 2 1, 0, 0, (nI 1)), (.goto (-71), 54, 0, 0)] [] (by decide +kernel) rfl (pc' := 54) (ls' := [some (.ref 72), some (.int (nI i)), some (.int (nI k + nI 1)), none]) (st' := []) (M' := N) rfl ⟨trivial, trivial, trivial⟩ ?_
        have hkk : kp k = false := by rw [← hkN (by omega)]; exact bI_eq (b := anyB (mhF N k i) n) (by assumption)
        refine G.sub (ls' := [some (.ref 72), some (.int (nI i)), some (.int (nI (k + 1))), none]) ?_ ⟨rfl, rfl, congrArg (fun z => some (Value.int z)) (by simp only [nI_add, nI_s1]), trivial⟩
        refine ih (d - 1) (by omega) (k + 1) _ (by omega) (by omega) (by rw [jp, bcnt, hkk]; rfl) (fun a c ha hc hk2 => ?_) j2
        by_cases e : c = k
        · subst e; rw [hkk] at hk2; cases hk2
        · exact j1 a c ha (by omega) hk2
      · refine blk 7 [(.iconst 0, 0, 0, (nI 0)), (.istore_n 3, 0, 0, 0)] [] (by decide +kernel) rfl (pc' := 73) (ls' := [some (.ref 72), some (.int (nI i)), some (.int (nI k)), some (.int (nI 0))]) (st' := []) (M' := N) rfl ⟨trivial, trivial, trivial⟩ ?_
        have hkk : kp k = true := by rw [← hkN (by omega)]; exact bI_ne (b := anyB (mhF N k i) n) (by assumption)
        have hbl := bcnt_le kp k
        refine G.sub (ls' := [some (.ref 72), some (.int (nI i)), some (.int (nI k)), some (.int (nI 0))]) ?_ ⟨rfl, rfl, rfl, rfl, trivial⟩
        refine l_rr2 (B := N) (p := bcnt kp k) hnN hn5 (by omega) (by omega) jp (fun N' q1 q2 q3 => l_rr3 (ih (d - 1) (by omega) (k + 1) _ (by omega) (by omega) ?_ (fun a c ha hc hk2 => ?_) ⟨fun f hf => ?_, fun z h1 h2 => ?_⟩)) _ 0 _ rfl (by omega) (fun y h => absurd h (by omega)) (fun _ _ => rfl) (fun _ _ => rfl)
        · rw [stm_self, q3 72 (by decide), jp, nI_add, bcnt, if_pos hkk]
        · rw [stm_ne (by decide)]
          by_cases e : c = k
          · subst e; rw [q1 a ha, j2.2 89 (by decide) (by decide)]
          · have hlt := bcnt_lt kp (show c < k by omega) hk2
            rw [q2 _ (fun b hb => by omega)]; exact j1 a c ha (by omega) hk2
        · rw [stm_off hf, q3 72 (by decide)]; exact j2.1 f hf
        · rw [stm_ne h1, q3 z h2]; exact j2.2 z h1 h2
theorem l_rr5 {B : Mem} {i : Nat} {Post : Option Value → Mem → Prop} (hp : ∀ N, (∀ x, x < 300 → N 89 x = B 92 x) → (∀ z, z ≠ 89 → N z = B z) → Post (some (.int (nI 1))) N) : ∀ d x N, d = 300 - x → x ≤ 300 → (∀ y, y < x → N 89 y = B 92 y) → (∀ z, z ≠ 89 → N z = B z) → G mX7_refine 176 [some (.ref 72), some (.int (nI i)), some (.int (nI x)), none] [] N Post := by
  intro d
  induction d using Nat.strongRecOn with
  | ind d ih =>
    intro x N hd hx j1 j2
    refine blk 7 [(.iload_n 2, 0, 0, 0), (.sipush 300, 0, 0, (nI 300))] [] (by decide +kernel) rfl (pc' := 180) (ls' := [some (.ref 72), some (.int (nI i)), some (.int (nI x)), none]) (st' := [.int (nI 300), .int (nI x)]) (M' := N) rfl ⟨trivial, trivial, trivial⟩ ?_
    refine g_icmp_ge (off := 21) (tgt := 201) (by decide +kernel) (by decide) (fun c1 => ?_) (fun c1 => ?_)
    · have nc1 : 300 ≤ x := (nI_leI (by omega) (by omega)).mp (by simpa only [nI_add, pk_mul, nI_s1, n0_lit] using c1)
      refine blk 7 [(.iconst 1, 0, 0, (nI 1))] [] (by decide +kernel) rfl (pc' := 202) (ls' := [some (.ref 72), some (.int (nI i)), some (.int (nI x)), none]) (st' := [.int (nI 1)]) (M' := N) rfl ⟨trivial, trivial⟩ ?_
      have e : x = 300 := by omega
      subst e
      exact g_ireturn (by decide +kernel) rfl rfl (hp N j1 j2)
    · have nc1 : x < 300 := by
        have z : ¬ nI 300 ≤ nI x := by simpa only [nI_add, pk_mul, nI_s1, n0_lit] using c1
        rw [nI_leI (by omega) (by omega)] at z
        omega
      refine blk 7 [(.aload_n 0, 0, 0, 0), (.getfield 62, 7, 24, 0), (.iload_n 2, 0, 0, 0), (.aload_n 0, 0, 0, 0), (.getfield 71, 7, 32, 0), (.iload_n 2, 0, 0, 0), (.iaload, 0, 0, 0), (.iastore, 0, 0, 0), (.iinc 2 1, 0, 0, (nI 1)), (.goto (-22), 176, 0, 0)] [x, x] (by decide +kernel) rfl (pc' := 176) (ls' := [some (.ref 72), some (.int (nI i)), some (.int (nI x + nI 1)), none]) (st' := []) (M' := stm N 89 x (N 92 x)) rfl ⟨trivial, rfl, trivial, trivial, rfl, trivial, ⟨rfl, (by show _ < 300; omega)⟩, ⟨rfl, (by show _ < 300; omega), by decide⟩, trivial, trivial, trivial⟩ ?_
      refine G.sub (ls' := [some (.ref 72), some (.int (nI i)), some (.int (nI (x + 1))), none]) ?_ ⟨rfl, rfl, congrArg (fun z => some (Value.int z)) (by simp only [nI_add, nI_s1]), trivial⟩
      refine ih (d - 1) (by omega) (x + 1) _ (by omega) (by omega) (fun y hy => ?_) (fun z hz => by rw [stm_ne hz]; exact j2 z hz)
      by_cases e : y = x
      · subst e; rw [stm_self, j2 92 (by decide)]
      · rw [stm_off (by omega)]; exact j1 y (by omega)
theorem l_rr4 {M N : Mem} {C C' : Mem} {B B2 n W i : Nat} {ln : Nat → Nat} {b : Bool} (hn : M 72 0 = nI n) (hn2 : 2 ≤ n) (hn5 : n ≤ 5) (hi : i < n) (hW : sameW C M n ln) (hro : rowsOK C B n W ln) (hps : ∀ i, i < 5 → ps 11 (C 24 i)) (hLR : layR C M B n W) (hP : rfP C B B2 n W ln i b C') (k25 : N 72 25 = nI (othF n i)) (k27 : N 72 27 = nI (bcnt (kpF C B n i) W)) (k90 : ∀ a c, a < n → c < W → kpF C B n i c = true → N 90 (60 * a + bcnt (kpF C B n i) c) = M 89 (60 * a + c)) (k1 : (∀ f, f ≠ 25 → f ≠ 27 → N 72 f = M 72 f) ∧ ∀ z, z ≠ 72 → z ≠ 90 → N z = M z) : G mX7_refine 128 [some (.ref 72), some (.int (nI i)), none, none] [] N (fun r N => r = some (.int (bI b)) ∧ (∀ W', rowsOK C' (if b then B2 else B) n W' ln → layR C' N (if b then B2 else B) n W') ∧ N 72 11 = M 72 11 ∧ rfKeep M N) := by
  obtain ⟨T, F, r0, m, ht, pb, pr, po, pf, pz, ps'⟩ := hP
  obtain ⟨t1, t2, t3, t4, t5, t6, t7⟩ := ht
  refine blk 7 [(.aload_n 0, 0, 0, 0), (.iconst 0, 0, 0, (nI 0)), (.iload_n 1, 0, 0, 0)] [] (by decide +kernel) rfl (pc' := 131) (ls' := [some (.ref 72), some (.int (nI i)), none, none]) (st' := [.int (nI i), .int (nI 0), .ref 72]) (M' := N) rfl ⟨trivial, trivial, trivial, trivial⟩ ?_
  have hwi := (hW.1 i hi).2.1
  refine g_callV (s_alone0 N (i := i) (n := ln i) (by omega) hwi.2.2.1 (by rw [k1.2 73 (by decide) (by decide)]; exact hwi.1)) ok_X7_refine_X7_alone (by decide +kernel) rfl (c := 7) rfl (by decide) rfl (Nat.le_of_ble_eq_true rfl) (fun r X hX => ?_) rfl
  obtain ⟨hr1, x1, x2, x3, x4, x5⟩ := hX
  rw [hr1]
  show G _ 134 [some (.ref 72), some (.int (nI i)), none, none] [] X _
  refine blk 7 [(.aload_n 0, 0, 0, 0)] [] (by decide +kernel) rfl (pc' := 135) (ls' := [some (.ref 72), some (.int (nI i)), none, none]) (st' := [.ref 72]) (M' := X) rfl ⟨trivial, trivial⟩ ?_
  refine g_callV (s_use X (n := n) (by rw [x4 0 (by decide) (by decide), k1.1 0 (by decide) (by decide)]; exact hn) hn5) ok_X7_refine_X7_useWeights (by decide +kernel) rfl (c := 7) rfl (by decide) rfl (Nat.le_of_ble_eq_true rfl) (fun r Y hY => ?_) rfl
  obtain ⟨hr2, y1, y2⟩ := hY
  rw [hr2]
  have e72 : ∀ f, f ≠ 25 → f ≠ 26 → f ≠ 27 → f ≠ 28 → Y 72 f = M 72 f := fun f h1 h2 h3 h4 => by rw [y2 72 (by decide), x4 f h2 h4]; exact k1.1 f h1 h3
  have ez : ∀ z, z ≠ 72 → z ≠ 90 → z ≠ 91 → z ≠ 39 → Y z = M z := fun z h1 h2 h3 h4 => by rw [y2 z h4, x5 z h1 h3]; exact k1.2 z h1 h2
  show G _ 138 [some (.ref 72), some (.int (nI i)), none, none] [] Y _
  refine blk 7 [(.aload_n 0, 0, 0, 0)] [] (by decide +kernel) rfl (pc' := 139) (ls' := [some (.ref 72), some (.int (nI i)), none, none]) (st' := [.ref 72]) (M' := Y) rfl ⟨trivial, trivial⟩ ?_
  have d25 : Y 72 25 = nI (othF n i) := by rw [y2 72 (by decide), x4 25 (by decide) (by decide)]; exact k25
  have d26 : Y 72 26 = bit i := by rw [y2 72 (by decide)]; exact x1
  have d90 : ∀ a k, a < 5 → ¬ hb (nI (othF n i)) a = 0 → k < bcnt (kpF C B n i) W → Y 90 (60 * a + k) = T (B2 + a + 5) k := fun a k ha hx hk => by
    have g := (oth_hb hn5 hi ha).mp hx
    obtain ⟨c, h1, h2, h3⟩ := bcnt_surj _ _ _ hk
    rw [← h3, t1 a g.1 g.2 c h1 h2, y2 90 (by decide), x5 90 (by decide) (by decide), k90 a c g.1 h1 h2]
    exact hLR.2.1 a c g.1 h1
  have d91 : ∀ a k, a < 5 → ¬ hb (bit i) a = 0 → k < ln i → Y 91 (60 * a + k) = T (B2 + a + 5) k := fun a k ha hx hk => by
    rw [(hb_bit_ne (by omega) ha).mp hx, t2 k hk, y2 91 (by decide), x3 k hk, k1.2 74 (by decide) (by decide)]
    exact ((hW.1 i hi).2.2 k hk).symm
  have okP := turn_okP hn5 hi hro t1
  have okQ := turn_okQ hn5 hi (hW.1 i hi).1 t2
  have hp := kp_le hn5 hi (fun a ha => (hW.1 a ha).1.2.2.1) hro
  have hq := hwi.2.2.1
  refine g_callV (s_mmerge Y (p := bcnt (kpF C B n i) W) (q := ln i) (by omega) (by omega) (by omega) ⟨fun v k hv hk hx => by rw [d25] at hx; rw [d90 v k hv hx hk]; exact okP v k hv hx hk, fun v k hv hk hx => by rw [d26] at hx; rw [d91 v k hv hx hk]; exact okQ v k hv hx hk⟩ (by rw [y2 72 (by decide), x4 27 (by decide) (by decide)]; exact k27) (by rw [y2 72 (by decide)]; exact x2)) ok_X7_refine_X7_merge (by decide +kernel) rfl (c := 7) rfl (by decide) rfl (Nat.le_of_ble_eq_true rfl) (fun r F' hF => ?_) rfl
  have hg : grp T Y B2 (nI (othF n i)) (bit i) 24 (bcnt (kpF C B n i) W) (ln i) := ⟨d25, d26, d90, d91, fun a ha hx => by
    have han : a < n := by rcases hx with z | z; exact ((oth_hb hn5 hi ha).mp z).1; rw [(hb_bit_ne (by omega) ha).mp z]; exact hi
    rw [y1 a ha, if_pos han, x5 88 (by decide) (by decide), k1.2 88 (by decide) (by decide), t3 24 (by omega)]; exact hLR.2.2.2 a han, fun k hk => by rw [ez 77 (by decide) (by decide) (by decide) (by decide), t3 3 (by omega)]; exact (hW.2.1 k hk).1, by rw [e72 6 (by decide) (by decide) (by decide) (by decide), t3 2 (by omega)]; exact hW.2.2.1, by rw [e72 7 (by decide) (by decide) (by decide) (by decide), t3 2 (by omega)]; exact hW.2.2.2.1⟩
  have hdT : dataOK T 24 := by unfold dataOK; rw [t3 24 (by omega), t3 3 (by omega), t3 2 (by omega)]; exact ⟨hps, fun k hk => (hW.2.1 k hk).2, hW.2.2.2.2.1, hW.2.2.2.2.2.1⟩
  obtain ⟨s1, m', s2, s3, s4, s5, s6⟩ := merged_same hdT hg (by omega) okP okQ (turn_dis hn5 hi) t4 hF
  have em : m' = m := (nI_eq (by omega) (by omega)).mp ((s6 0 (by omega) (turn_all hn5 hi (by omega))).1.symm.trans (t5 0 (by omega)))
  subst em
  have hfr := merge_fr hF
  have f72 : ∀ f, f ≠ 25 → f ≠ 26 → f ≠ 27 → f ≠ 28 → f ≠ 31 → F' 72 f = M 72 f := fun f h1 h2 h3 h4 h5 => by rw [hfr.1 f h5]; exact e72 f h1 h2 h3 h4
  have fz : ∀ z, z ≠ 72 → z ≠ 40 → z ≠ 39 → (z < 90 ∨ 95 < z) → F' z = M z := fun z h1 h2 h3 h4 => by rw [hfr.2 z h2 h1 (by omega)]; exact ez z h1 (by omega) (by omega) h3
  have hrow : ∀ a k, a < n → k < m' → F' 92 (60 * a + k) = F (B2 + a + 5) k ∧ okc (F (B2 + a + 5) k) := fun a k ha hk => ⟨(((s6 a (by omega) (turn_all hn5 hi ha)).2 k hk).1).symm, ((s6 a (by omega) (turn_all hn5 hi ha)).2 k hk).2⟩
  have hold : ∀ a k, a < n → k < W → F' 89 (60 * a + k) = C (B + a + 5) k ∧ okc (C (B + a + 5) k) := fun a k ha hk => ⟨by rw [fz 89 (by decide) (by decide) (by decide) (by omega)]; exact hLR.2.1 a k ha hk, (hro.2 a ha).2.1 k hk⟩
  have g88 : ∀ a, a < n → F' 88 a = C 24 a := fun a ha => by rw [fz 88 (by decide) (by decide) (by decide) (by omega)]; exact hLR.2.2.2 a ha
  have g77 : ∀ k, k < 16 → F' 77 k = C 3 k := fun k hk => by rw [fz 77 (by decide) (by decide) (by decide) (by omega)]; exact (hW.2.1 k hk).1
  have g6 : F' 72 6 = C 2 1 := by rw [f72 6 (by decide) (by decide) (by decide) (by decide) (by decide)]; exact hW.2.2.1
  have g7 : F' 72 7 = C 2 2 := by rw [f72 7 (by decide) (by decide) (by decide) (by decide) (by decide)]; exact hW.2.2.2.1
  have T1 : mtot F' 92 m' n = totC F B2 m' n := tot_same (fun a ha => by rw [t7 24 (by omega)]; exact g88 a ha) (fun k hk => by rw [t7 3 (by omega)]; exact g77 k hk) (by rw [t7 2 (by omega)]; exact g6) (by rw [t7 2 (by omega)]; exact g7) hrow
  have T0 : mtot F' 89 W n = totC C B W n := tot_same g88 g77 g6 g7 hold
  have hnF : F' 72 0 = nI n := by rw [f72 0 (by decide) (by decide) (by decide) (by decide) (by decide)]; exact hn
  have hcF : F' 72 23 = nI W := by rw [f72 23 (by decide) (by decide) (by decide) (by decide) (by decide)]; exact hLR.1
  obtain ⟨xv, hxv⟩ : ∃ xv, r = some (.int xv) := by obtain ⟨_, T', _, _, _, _, _, h5, _⟩ := hF; exact ⟨_, h5⟩
  rw [hxv]
  show G _ 142 [some (.ref 72), some (.int (nI i)), none, none] [.int xv] F' _
  refine blk 7 [(.pop, 0, 0, 0), (.aload_n 0, 0, 0, 0), (.iconst 1, 0, 0, (nI 1)), (.aload_n 0, 0, 0, 0), (.getfield 161, 7, 31, 0)] [] (by decide +kernel) rfl (pc' := 149) (ls' := [some (.ref 72), some (.int (nI i)), none, none]) (st' := [.int (F' 72 31), .int (nI 1), .ref 72]) (M' := F') rfl ⟨rfl, trivial, trivial, trivial, rfl, trivial⟩ ?_
  rw [s5]
  refine g_callV (s_to92 F' (n := n) (W := m') hnF hn5 (by omega) (fun a k ha hk => by rw [(hrow a k ha hk).1]; exact (hrow a k ha hk).2)) ok_X7_refine_X7_totalOf (by decide +kernel) rfl (c := 7) rfl (by decide) rfl (Nat.le_of_ble_eq_true rfl) (fun r M' h => ?_) rfl
  obtain ⟨hr6, hM6⟩ := h
  rw [hr6, hM6, T1]
  show G _ 152 [some (.ref 72), some (.int (nI i)), none, none] [.int (totC F B2 m' n)] F' _
  refine blk 7 [(.aload_n 0, 0, 0, 0), (.iconst 0, 0, 0, (nI 0)), (.aload_n 0, 0, 0, 0), (.getfield 93, 7, 23, 0)] [] (by decide +kernel) rfl (pc' := 158) (ls' := [some (.ref 72), some (.int (nI i)), none, none]) (st' := [.int (F' 72 23), .int (nI 0), .ref 72, .int (totC F B2 m' n)]) (M' := F') rfl ⟨trivial, trivial, trivial, rfl, trivial⟩ ?_
  rw [hcF]
  refine g_callV (s_to89 F' (n := n) (W := W) hnF hn5 hro.1 (fun a k ha hk => by rw [(hold a k ha hk).1]; exact (hold a k ha hk).2)) ok_X7_refine_X7_totalOf (by decide +kernel) rfl (c := 7) rfl (by decide) rfl (Nat.le_of_ble_eq_true rfl) (fun r M' h => ?_) rfl
  obtain ⟨hr7, hM7⟩ := h
  rw [hr7, hM7, T0]
  show G _ 161 [some (.ref 72), some (.int (nI i)), none, none] [.int (totC C B W n), .int (totC F B2 m' n)] F' _
  refine g_icmp_gt (off := 5) (tgt := 166) (by decide +kernel) (by decide) (fun c1 => ?_) (fun c1 => ?_)
  · refine blk 7 [(.aload_n 0, 0, 0, 0), (.aload_n 0, 0, 0, 0), (.getfield 161, 7, 31, 0), (.putfield 93, 7, 23, 0), (.iconst 0, 0, 0, (nI 0)), (.istore_n 2, 0, 0, 0)] [] (by decide +kernel) rfl (pc' := 176) (ls' := [some (.ref 72), some (.int (nI i)), some (.int (nI 0)), none]) (st' := []) (M' := stm F' 72 23 (F' 72 31)) rfl ⟨trivial, trivial, rfl, rfl, trivial, trivial, trivial⟩ ?_
    have hbt : b = true := pb.mpr (by assumption)
    subst hbt
    refine G.sub (ls' := [some (.ref 72), some (.int (nI i)), some (.int (nI 0)), none]) ?_ ⟨rfl, rfl, rfl, trivial⟩
    refine l_rr5 (B := stm F' 72 23 (F' 72 31)) (fun N' q1 q2 => ⟨congrArg (fun z => some (Value.int z)) (by decide +kernel), fun W' hW' => ?_, ?_, fun f hf => ?_, fun z h1 h2 h3 => ?_⟩) _ 0 _ rfl (by omega) (fun y h => absurd h (by omega)) (fun _ _ => rfl)
    · have eW : W' = m' := by
        have := (hW'.2 0 (by omega)).1
        rw [if_pos rfl, (pr 0 (by omega)).1, t5 0 (by omega)] at this
        have l := hW'.1
        exact ((nI_eq (by omega) (by omega)).mp this).symm
      subst eW
      refine ⟨by rw [q2 72 (by decide), stm_self]; exact s5, fun a c ha hc => ?_, fun k h1 h2 => ?_, fun a ha => ?_⟩
      · rw [if_pos rfl, (pr a ha).2, q1 _ (by omega), stm_ne (by decide)]; exact (hrow a c ha hc).1
      · rw [q2 78 (by decide), q2 79 (by decide), q2 81 (by decide), stm_ne (by decide), stm_ne (by decide), stm_ne (by decide), fz 78 (by decide) (by decide) (by decide) (by omega), fz 79 (by decide) (by decide) (by decide) (by omega), fz 81 (by decide) (by decide) (by decide) (by omega), pz 17 (by omega), pz 18 (by omega), pz 19 (by omega)]; exact hLR.2.2.1 k h1 h2
      · rw [q2 88 (by decide), stm_ne (by decide), pz 24 (by omega)]; exact g88 a ha
    · rw [q2 72 (by decide), stm_off (by decide)]; exact f72 11 (by decide) (by decide) (by decide) (by decide) (by decide)
    · rw [q2 72 (by decide), stm_off (by omega)]; exact f72 f (by omega) (by omega) (by omega) (by omega) (by omega)
    · rw [q2 z (by omega), stm_ne (by omega)]; exact fz z (by omega) h2 h1 (by omega)
  · refine blk 7 [(.iconst 0, 0, 0, (nI 0))] [] (by decide +kernel) rfl (pc' := 165) (ls' := [some (.ref 72), some (.int (nI i)), none, none]) (st' := [.int (nI 0)]) (M' := F') rfl ⟨trivial, trivial⟩ ?_
    have hbf : b = false := by
      cases hb' : b with
      | false => rfl
      | true => exact absurd (pb.mp hb') (by assumption)
    subst hbf
    refine g_ireturn (by decide +kernel) rfl rfl ⟨congrArg (fun z => some (Value.int z)) (by decide +kernel), fun W' hW' => ?_, ?_, fun f hf => ?_, fun z h1 h2 h3 => ?_⟩
    · have eW : W' = W := by
        have := (hW'.2 0 (by omega)).1
        rw [if_neg (by decide), (po 0 (by omega)).1, (hro.2 0 (by omega)).1] at this
        have l := hW'.1
        have l2 := hro.1
        exact ((nI_eq (by omega) (by omega)).mp this).symm
      subst eW
      refine ⟨hcF, fun a c ha hc => ?_, fun k h1 h2 => ?_, fun a ha => ?_⟩
      · rw [if_neg (by decide), (po a (by omega)).2]; exact (hold a c ha hc).1
      · rw [fz 78 (by decide) (by decide) (by decide) (by omega), fz 79 (by decide) (by decide) (by decide) (by omega), fz 81 (by decide) (by decide) (by decide) (by omega), pz 17 (by omega), pz 18 (by omega), pz 19 (by omega)]; exact hLR.2.2.1 k h1 h2
      · rw [pz 24 (by omega)]; exact g88 a ha
    · exact f72 11 (by decide) (by decide) (by decide) (by decide) (by decide)
    · exact f72 f (by omega) (by omega) (by omega) (by omega) (by omega)
    · exact fz z (by omega) h2 h1 (by omega)
theorem pset_eq {n i : Nat} (hn : n ≤ 5) (hi : i < n) : ((nI 1 <<< (nI n &&& 31)) - nI 1) &&& ((nI 1 <<< (nI i &&& 31)) ^^^ (-1)) = nI (othF n i) := (by decide +kernel : ∀ n, n < 6 → ∀ i, i < n → ((nI 1 <<< (nI n &&& 31)) - nI 1) &&& ((nI 1 <<< (nI i &&& 31)) ^^^ (-1)) = nI (othF n i)) n (by omega) i hi
theorem i_nn {i : Nat} (h : i < 10) : ¬ nI i < 0 := (by decide +kernel : ∀ i, i < 10 → ¬ nI i < 0) i h
theorem s_mrefine1 (M : Mem) {C C' : Mem} {B B2 n W i : Nat} {ln : Nat → Nat} {b : Bool} (hn : M 72 0 = nI n) (hn2 : 2 ≤ n) (hn5 : n ≤ 5) (hi : i < n) (hW : sameW C M n ln) (hro : rowsOK C B n W ln) (hps : ∀ i, i < 5 → ps 11 (C 24 i)) (hLR : layR C M B n W) (hP : rfP C B B2 n W ln i b C') (hl : ¬ M 72 11 = 0) : Spec mX7_refine [.ref 72, .int (nI i)] M (fun r N => r = some (.int (bI b)) ∧ (∀ W', rowsOK C' (if b then B2 else B) n W' ln → layR C' N (if b then B2 else B) n W') ∧ N 72 11 = M 72 11 ∧ rfKeep M N) := by
  refine Spec.of (by decide) (by simp [Value.category]) (Nat.le_of_ble_eq_true rfl) ?_
  refine blk 7 [(.aload_n 0, 0, 0, 0), (.getfield 89, 7, 11, 0)] [] (by decide +kernel) rfl (pc' := 4) (ls' := [some (.ref 72), some (.int (nI i)), none, none]) (st' := [.int (M 72 11)]) (M' := M) rfl ⟨trivial, rfl, trivial⟩ ?_
  refine g_if_eq (off := 23) (tgt := 27) (by decide +kernel) (by decide) (fun c1 => ?_) (fun c1 => ?_)
  · refine blk 7 [(.iconst 0, 0, 0, (nI 0))] [] (by decide +kernel) rfl (pc' := 28) (ls' := [some (.ref 72), some (.int (nI i)), none, none]) (st' := [.int (nI 0)]) (M' := M) rfl ⟨trivial, trivial⟩ ?_
    first
      | exact absurd (by assumption) hl
      | exact absurd (by assumption) (i_nn (show i < 10 by omega))
      | (exfalso; omega)
  · refine blk 7 [(.iload_n 1, 0, 0, 0)] [] (by decide +kernel) rfl (pc' := 8) (ls' := [some (.ref 72), some (.int (nI i)), none, none]) (st' := [.int (nI i)]) (M' := M) rfl ⟨trivial, trivial⟩ ?_
    refine g_if_lt (off := 19) (tgt := 27) (by decide +kernel) (by decide) (fun c2 => ?_) (fun c2 => ?_)
    · have nc2 : i < 0 := (nI_ltI (by omega) (by omega)).mp (by simpa only [hn, nI_add, pk_mul, nI_s1, n0_lit] using c2)
      refine blk 7 [(.iconst 0, 0, 0, (nI 0))] [] (by decide +kernel) rfl (pc' := 28) (ls' := [some (.ref 72), some (.int (nI i)), none, none]) (st' := [.int (nI 0)]) (M' := M) rfl ⟨trivial, trivial⟩ ?_
      first
        | exact absurd (by assumption) hl
        | exact absurd (by assumption) (i_nn (show i < 10 by omega))
        | (exfalso; omega)
    · have nc2 : 0 ≤ i := by
        have z : ¬ nI i < nI 0 := by simpa only [hn, nI_add, pk_mul, nI_s1, n0_lit] using c2
        rw [nI_ltI (by omega) (by omega)] at z
        omega
      refine blk 7 [(.iload_n 1, 0, 0, 0), (.aload_n 0, 0, 0, 0), (.getfield 103, 7, 0, 0)] [] (by decide +kernel) rfl (pc' := 16) (ls' := [some (.ref 72), some (.int (nI i)), none, none]) (st' := [.int (M 72 0), .int (nI i)]) (M' := M) rfl ⟨trivial, trivial, rfl, trivial⟩ ?_
      refine g_icmp_ge (off := 11) (tgt := 27) (by decide +kernel) (by decide) (fun c3 => ?_) (fun c3 => ?_)
      · have nc3 : n ≤ i := (nI_leI (by omega) (by omega)).mp (by simpa only [hn, nI_add, pk_mul, nI_s1, n0_lit] using c3)
        refine blk 7 [(.iconst 0, 0, 0, (nI 0))] [] (by decide +kernel) rfl (pc' := 28) (ls' := [some (.ref 72), some (.int (nI i)), none, none]) (st' := [.int (nI 0)]) (M' := M) rfl ⟨trivial, trivial⟩ ?_
        first
          | exact absurd (by assumption) hl
          | exact absurd (by assumption) (i_nn (show i < 10 by omega))
          | (exfalso; omega)
      · have nc3 : i < n := by
          have z : ¬ nI n ≤ nI i := by simpa only [hn, nI_add, pk_mul, nI_s1, n0_lit] using c3
          rw [nI_leI (by omega) (by omega)] at z
          omega
        refine blk 7 [(.aload_n 0, 0, 0, 0), (.getfield 103, 7, 0, 0), (.iconst 1, 0, 0, (nI 1))] [] (by decide +kernel) rfl (pc' := 24) (ls' := [some (.ref 72), some (.int (nI i)), none, none]) (st' := [.int (nI 1), .int (M 72 0)]) (M' := M) rfl ⟨trivial, rfl, trivial, trivial⟩ ?_
        refine g_icmp_ne (off := 5) (tgt := 29) (by decide +kernel) (by decide) (fun c4 => ?_) (fun c4 => ?_)
        · have nc4 : n ≠ 1 := by
            have z : ¬ nI n = nI 1 := by simpa only [hn, nI_add, pk_mul, nI_s1, n0_lit] using c4
            rw [nI_eq (by omega) (by omega)] at z
            omega
          refine blk 7 [(.aload_n 0, 0, 0, 0), (.iconst 1, 0, 0, (nI 1)), (.aload_n 0, 0, 0, 0), (.getfield 103, 7, 0, 0), (.ishl, 0, 0, 0), (.iconst 1, 0, 0, (nI 1)), (.isub, 0, 0, 0), (.iconst 1, 0, 0, (nI 1)), (.iload_n 1, 0, 0, 0), (.ishl, 0, 0, 0), (.iconst (-1), 0, 0, (-1)), (.ixor, 0, 0, 0), (.iand, 0, 0, 0), (.putfield 118, 7, 25, 0), (.aload_n 0, 0, 0, 0), (.iconst 0, 0, 0, (nI 0)), (.putfield 121, 7, 27, 0), (.iconst 0, 0, 0, (nI 0)), (.istore_n 2, 0, 0, 0)] [] (by decide +kernel) rfl (pc' := 54) (ls' := [some (.ref 72), some (.int (nI i)), some (.int (nI 0)), none]) (st' := []) (M' := stm (stm M 72 25 ((((nI 1) <<< ((M 72 0) &&& 31)) - (nI 1)) &&& (((nI 1) <<< ((nI i) &&& 31)) ^^^ (-1)))) 72 27 (nI 0)) rfl ⟨trivial, trivial, trivial, rfl, trivial, trivial, trivial, trivial, trivial, trivial, trivial, trivial, trivial, rfl, trivial, trivial, rfl, trivial, trivial, trivial⟩ ?_
          refine G.sub (ls' := [some (.ref 72), some (.int (nI i)), some (.int (nI 0)), none]) ?_ ⟨rfl, rfl, rfl, trivial⟩
          refine l_rr1 (M := stm (stm M 72 25 ((((nI 1) <<< ((M 72 0) &&& 31)) - (nI 1)) &&& (((nI 1) <<< ((nI i) &&& 31)) ^^^ (-1)))) 72 27 (nI 0)) (W := W) (kp := kpF C B n i) (by rw [stm_off (by decide), stm_off (by decide)]; exact hn) hn5 hi (by rw [stm_off (by decide), stm_off (by decide)]; exact hLR.1) hro.1 (fun c hc => mh_kp hn5 hi (fun a ha => by rw [stm_ne (by decide), stm_ne (by decide)]; exact hLR.2.1 a c ha hc)) (fun N q1 q2 q3 => l_rr4 hn hn2 hn5 hi hW hro hps hLR hP ?_ q1 (fun a c ha hc hk => by rw [q2 a c ha hc hk, stm_ne (by decide), stm_ne (by decide)]) ⟨fun f h1 h2 => by rw [q3.1 f h2, stm_off h2, stm_off h1], fun z h1 h2 => by rw [q3.2 z h1 h2, stm_ne h1, stm_ne h1]⟩) _ 0 _ rfl (by omega) (by rw [stm_self]; rfl) (fun a c ha hc => absurd hc (by omega)) ⟨fun _ _ => rfl, fun _ _ _ => rfl⟩
          rw [q3.1 25 (by decide), stm_off (by decide), stm_self, hn]
          exact pset_eq hn5 hi
        · have nc4 : n = 1 := (nI_eq (by omega) (by omega)).mp (by simpa only [hn, nI_add, pk_mul, nI_s1, n0_lit] using c4)
          refine blk 7 [(.iconst 0, 0, 0, (nI 0))] [] (by decide +kernel) rfl (pc' := 28) (ls' := [some (.ref 72), some (.int (nI i)), none, none]) (st' := [.int (nI 0)]) (M' := M) rfl ⟨trivial, trivial⟩ ?_
          first
            | exact absurd (by assumption) hl
            | exact absurd (by assumption) (i_nn (show i < 10 by omega))
            | (exfalso; omega)
theorem s_mrefine0 (M : Mem) {i : Int32} (hno : ¬ (¬ M 72 11 = 0 ∧ ¬ i < 0 ∧ ¬ M 72 0 ≤ i ∧ ¬ M 72 0 = nI 1)) : Spec mX7_refine [.ref 72, .int i] M (Ret 0 M) := by
  refine Spec.of (by decide) (by simp [Value.category]) (Nat.le_of_ble_eq_true rfl) ?_
  refine blk 7 [(.aload_n 0, 0, 0, 0), (.getfield 89, 7, 11, 0)] [] (by decide +kernel) rfl (pc' := 4) (ls' := [some (.ref 72), some (.int i), none, none]) (st' := [.int (M 72 11)]) (M' := M) rfl ⟨trivial, rfl, trivial⟩ ?_
  refine g_if_eq (off := 23) (tgt := 27) (by decide +kernel) (by decide) (fun c1 => ?_) (fun c1 => ?_)
  · refine blk 7 [(.iconst 0, 0, 0, (nI 0))] [] (by decide +kernel) rfl (pc' := 28) (ls' := [some (.ref 72), some (.int i), none, none]) (st' := [.int (nI 0)]) (M' := M) rfl ⟨trivial, trivial⟩ ?_
    exact g_ireturn (by decide +kernel) rfl rfl ⟨congrArg (fun z => some (Value.int z)) (by decide +kernel), rfl⟩
  · refine blk 7 [(.iload_n 1, 0, 0, 0)] [] (by decide +kernel) rfl (pc' := 8) (ls' := [some (.ref 72), some (.int i), none, none]) (st' := [.int i]) (M' := M) rfl ⟨trivial, trivial⟩ ?_
    refine g_if_lt (off := 19) (tgt := 27) (by decide +kernel) (by decide) (fun c2 => ?_) (fun c2 => ?_)
    · refine blk 7 [(.iconst 0, 0, 0, (nI 0))] [] (by decide +kernel) rfl (pc' := 28) (ls' := [some (.ref 72), some (.int i), none, none]) (st' := [.int (nI 0)]) (M' := M) rfl ⟨trivial, trivial⟩ ?_
      exact g_ireturn (by decide +kernel) rfl rfl ⟨congrArg (fun z => some (Value.int z)) (by decide +kernel), rfl⟩
    · refine blk 7 [(.iload_n 1, 0, 0, 0), (.aload_n 0, 0, 0, 0), (.getfield 103, 7, 0, 0)] [] (by decide +kernel) rfl (pc' := 16) (ls' := [some (.ref 72), some (.int i), none, none]) (st' := [.int (M 72 0), .int i]) (M' := M) rfl ⟨trivial, trivial, rfl, trivial⟩ ?_
      refine g_icmp_ge (off := 11) (tgt := 27) (by decide +kernel) (by decide) (fun c3 => ?_) (fun c3 => ?_)
      · refine blk 7 [(.iconst 0, 0, 0, (nI 0))] [] (by decide +kernel) rfl (pc' := 28) (ls' := [some (.ref 72), some (.int i), none, none]) (st' := [.int (nI 0)]) (M' := M) rfl ⟨trivial, trivial⟩ ?_
        exact g_ireturn (by decide +kernel) rfl rfl ⟨congrArg (fun z => some (Value.int z)) (by decide +kernel), rfl⟩
      · refine blk 7 [(.aload_n 0, 0, 0, 0), (.getfield 103, 7, 0, 0), (.iconst 1, 0, 0, (nI 1))] [] (by decide +kernel) rfl (pc' := 24) (ls' := [some (.ref 72), some (.int i), none, none]) (st' := [.int (nI 1), .int (M 72 0)]) (M' := M) rfl ⟨trivial, rfl, trivial, trivial⟩ ?_
        refine g_icmp_ne (off := 5) (tgt := 29) (by decide +kernel) (by decide) (fun c4 => ?_) (fun c4 => ?_)
        · exact absurd ⟨by assumption, by assumption, by assumption, by assumption⟩ hno
        · refine blk 7 [(.iconst 0, 0, 0, (nI 0))] [] (by decide +kernel) rfl (pc' := 28) (ls' := [some (.ref 72), some (.int i), none, none]) (st' := [.int (nI 0)]) (M' := M) rfl ⟨trivial, trivial⟩ ?_
          exact g_ireturn (by decide +kernel) rfl rfl ⟨congrArg (fun z => some (Value.int z)) (by decide +kernel), rfl⟩
