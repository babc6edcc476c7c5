/-! the class's align: the distances, and all -/
def clsOK (M : Mem) (n : Nat) (ln : Nat → Nat) : Prop := M 0 7 = nI n ∧ (∀ i, i < n → wordOK M i (ln i)) ∧ (∀ a, a < 5 → M 97 a = 1) ∧ (∀ k, k < 16 → sm 20 (M 3 k)) ∧ ps 20 (M 2 1) ∧ ps 20 (M 2 2)
theorem clsOK_fr {M N : Mem} {n : Nat} {ln : Nat → Nat} (hn5 : n ≤ 5) (h7 : N 0 7 = M 0 7) (hz : ∀ z, z = 2 ∨ z = 3 ∨ (40 < z ∧ z < 51) ∨ z = 97 → N z = M z) (h : clsOK M n ln) : clsOK N n ln := by
  obtain ⟨h1, h2, h3, h4, h5, h6⟩ := h
  refine ⟨by rw [h7]; exact h1, fun i hi => ?_, ?_, ?_, ?_, ?_⟩
  · have := h2 i hi
    unfold wordOK at *
    rw [hz (41 + i) (by omega), hz (41 + i + 5) (by omega)]; exact this
  · rw [hz 97 (by omega)]; exact h3
  · rw [hz 3 (by omega)]; exact h4
  · rw [hz 2 (by omega)]; exact h5
  · rw [hz 2 (by omega)]; exact h6
theorem cd_frame {M F : Mem} {B i j lo hi li lj a b : Nat} {r : Option Value} (hlo : lo < 5) (hhi : hi < 5) (h : cdP M B i j lo hi li lj a b r F) : ∀ z, z < 4 ∨ 15 < z → (∀ w, w < 5 → z ≠ B + w ∧ z ≠ B + w + 5) → F z = M z := by
  intro z hz hw
  obtain ⟨d, _, h⟩ := h
  rcases h with ⟨_, r0, n, ⟨C, _, _, _, _, cz, R, T, m, _, _, _, _, _, _, _, _, u9⟩, _⟩ | ⟨_, e, _⟩
  · rw [u9 z hz (fun a ha _ => hw a ha)]
    exact cz z (hw lo hlo).1 (hw lo hlo).2 (hw hi hhi).1 (hw hi hhi).2
  · rw [e]
theorem two_true {n i j : Nat} (hn : n ≤ 5) (hi : i < n) (hj : j < n) (hij : i ≠ j) : twoB (nI n) (nI i) (nI j) = true := by
  unfold twoB
  refine decide_eq_true ⟨?_, ?_, ?_, ?_, ?_⟩
  · rw [← nI_0, nI_ltI (by omega) (by omega)]; omega
  · rw [nI_leI (by omega) (by omega)]; omega
  · rw [← nI_0, nI_ltI (by omega) (by omega)]; omega
  · rw [nI_leI (by omega) (by omega)]; omega
  · rw [nI_eq (by omega) (by omega)]; exact hij
def vvF (sp : Bool) (x : Nat) : Int32 := if sp = false then nI x else nI 8 * nI x
def scan (n i j a b : Nat) : Prop := a < b ∧ b < n ∧ (a < i ∨ (a = i ∧ b < j))
def dsJ (A N : Mem) (sp : Bool) (n : Nat) (ln : Nat → Nat) (dd : Nat → Nat → Nat) (i j : Nat) : Prop := (∀ a b, dd a b = dd b a) ∧ (∀ a b, dd a b ≤ 1000) ∧ ∀ a b, scan n i j a b → distW A a b (ln a) (ln b) (dd a b) ∧ N (26 + a) b = vvF sp (dd a b) ∧ N (26 + b) a = vvF sp (dd a b)
theorem dsJ_step {A N F : Mem} {sp : Bool} {n i j dn : Nat} {ln : Nat → Nat} {dd : Nat → Nat → Nat} {v : Int32} (hij : i < j) (hj : j < n) (hJ : dsJ A N sp n ln dd i j) (hd : dn ≤ 1000) (hW : distW A i j (ln i) (ln j) dn) (hv : v = vvF sp dn) (hF : ∀ x, x < 9 → F (26 + x) = N (26 + x)) (hn5 : n ≤ 5) : dsJ A (stB F i j v) sp n ln (upd2 dd i j dn) i (j + 1) := by
  obtain ⟨h1, h2, h3⟩ := hJ
  refine ⟨fun a b => ?_, fun a b => ?_, fun a b hs => ?_⟩
  · unfold upd2
    by_cases c : (a = i ∧ b = j) ∨ (a = j ∧ b = i)
    · rw [if_pos c, if_pos (by omega)]
    · rw [if_neg c, if_neg (by omega)]; exact h1 a b
  · unfold upd2
    split
    · exact hd
    · exact h2 a b
  · unfold scan at hs
    rw [stB_get (by omega), stB_get (by omega)]
    unfold upd2
    by_cases c : a = i ∧ b = j
    · rw [if_pos (Or.inl c), if_pos (Or.inl c), if_pos (Or.inr ⟨c.2, c.1⟩), c.1, c.2]
      exact ⟨hW, hv, hv⟩
    · rw [if_neg (by omega), if_neg (by omega), if_neg (by omega), hF a (by omega), hF b (by omega)]
      exact h3 a b ⟨hs.1, hs.2.1, by omega⟩
theorem dsJ_row {A N : Mem} {sp : Bool} {n i j : Nat} {ln : Nat → Nat} {dd : Nat → Nat → Nat} (hj : n ≤ j) (hJ : dsJ A N sp n ln dd i j) : dsJ A N sp n ln dd (i + 1) (i + 2) :=
  ⟨hJ.1, hJ.2.1, fun a b hs => hJ.2.2 a b ⟨hs.1, hs.2.1, by have := hs.2.2; have := hs.1; have := hs.2.1; omega⟩⟩
theorem l_al1_35 {A : Mem} {sp : Bool} {n i : Nat} {ln : Nat → Nat} {Post : Option Value → Mem → Prop} (hn5 : n ≤ 5) (hc : clsOK A n ln) (hT6 : (A 0 6).toNatClampNeg = 37) (hsp : A 16 11 = 0 ↔ sp = false) (hi : i < n) (hp : ∀ N dd, (∀ z, (z < 4 ∨ (15 < z ∧ z < 26) ∨ 34 < z) → (∀ w, w < 5 → z ≠ 61 + w ∧ z ≠ 61 + w + 5) → N z = A z) → dsJ A N sp n ln dd (i + 1) (i + 2) → G mX6_align 26 [some (.ref 0), some (.int (nI (i + 1))), none] [] N Post) : ∀ d j N dd, d = n - j → i < j → j ≤ n → (∀ z, (z < 4 ∨ (15 < z ∧ z < 26) ∨ 34 < z) → (∀ w, w < 5 → z ≠ 61 + w ∧ z ≠ 61 + w + 5) → N z = A z) → dsJ A N sp n ln dd i j → G mX6_align 38 [some (.ref 0), some (.int (nI i)), some (.int (nI j))] [] N Post := by
  intro d
  induction d using Nat.strongRecOn with
  | ind d ih =>
    intro j N dd hd hij hj j0 hJ
    have hnN : N 0 7 = nI n := by rw [j0 0 (by omega) (fun w hw => by omega)]; exact hc.1
    refine blk 6 [(.iload_n 2, 0, 0, 0), (.aload_n 0, 0, 0, 0), (.getfield 67, 6, 7, 0)] [] (by decide +kernel) rfl (pc' := 43) (ls' := [some (.ref 0), some (.int (nI i)), some (.int (nI j))]) (st' := [.int (N 0 7), .int (nI j)]) (M' := N) rfl ⟨trivial, trivial, rfl, trivial⟩ ?_
    refine g_icmp_ge (off := 24) (tgt := 67) (by decide +kernel) (by decide) (fun c1 => ?_) (fun c1 => ?_)
    · have nc1 : n ≤ j := (nI_leI (by omega) (by omega)).mp (by simpa only [hnN, nI_add, pk_mul, nI_s1, n0_lit] using c1)
      refine blk 6 [(.iinc 1 1, 0, 0, (nI 1)), (.goto (-44), 26, 0, 0)] [] (by decide +kernel) rfl (pc' := 26) (ls' := [some (.ref 0), some (.int (nI i + nI 1)), some (.int (nI j))]) (st' := []) (M' := N) rfl ⟨trivial, trivial, trivial⟩ ?_
      refine G.sub (ls' := [some (.ref 0), some (.int (nI (i + 1))), none]) ?_ ⟨rfl, congrArg (fun z => some (Value.int z)) (by simp only [nI_add, nI_s1]), trivial⟩
      exact hp _ _ j0 (dsJ_row (by omega) hJ)
    · have nc1 : j < n := by
        have z : ¬ nI n ≤ nI j := by simpa only [hnN, nI_add, pk_mul, nI_s1, n0_lit] using c1
        rw [nI_leI (by omega) (by omega)] at z
        omega
      refine blk 6 [(.aload_n 0, 0, 0, 0), (.getfield 41, 6, 4, 0), (.iload_n 1, 0, 0, 0), (.iload_n 2, 0, 0, 0), (.aload_n 0, 0, 0, 0), (.iload_n 1, 0, 0, 0), (.iload_n 2, 0, 0, 0)] [] (by decide +kernel) rfl (pc' := 55) (ls' := [some (.ref 0), some (.int (nI i)), some (.int (nI j))]) (st' := [.int (nI j), .int (nI i), .ref 0, .int (nI j), .int (nI i), .ref 16]) (M' := N) rfl ⟨trivial, rfl, trivial, trivial, trivial, trivial, trivial, trivial⟩ ?_
      have hcN := clsOK_fr hn5 (by rw [j0 0 (by omega) (fun w hw => by omega)]) (fun z hz => j0 z (by omega) (fun w hw => by omega)) hc
      have hTN : (N 0 6).toNatClampNeg = 37 := by rw [j0 0 (by omega) (fun w hw => by omega)]; exact hT6
      have hor : ord2 i j i j (ln i) (ln j) (ln i) (ln j) := Or.inl ⟨by omega, rfl, rfl, rfl, rfl⟩
      refine g_callV (s_dist1_37 N (i := i) (j := j) (lo := i) (hi := j) (li := ln i) (lj := ln j) (a := ln i) (b := ln j) (by rw [hcN.1]; exact two_true hn5 (by omega) (by omega) (by omega)) hTN (by omega) (by omega) hor (hcN.2.1 i (by omega)) (hcN.2.1 j (by omega)) hcN.2.2.1 hcN.2.2.2.1 hcN.2.2.2.2.1 hcN.2.2.2.2.2) ok_X6_align_X6_distance (by decide +kernel) rfl (c := 6) rfl (by decide) rfl (Nat.le_of_ble_eq_true rfl) (fun r F hF => ?_) rfl
      obtain ⟨dn, hd1, hr, hd2⟩ := dist_class (Or.inr rfl) (by omega) (by omega) hor (hcN.2.1 i (by omega)) (hcN.2.1 j (by omega)) hF
      have fz := cd_frame (by omega) (by omega) hF
      rw [hr]
      have hd3 : distW A i j (ln i) (ln j) dn := distW_congr (by rw [j0 0 (by omega) (fun w hw => by omega)]) (j0 2 (by omega) (fun w hw => by omega)) (j0 3 (by omega) (fun w hw => by omega)) (j0 97 (by omega) (fun w hw => by omega)) (j0 _ (by omega) (fun w hw => by omega)) (j0 _ (by omega) (fun w hw => by omega)) hd2
      have f16 : F 16 11 = A 16 11 := by rw [fz 16 (by omega) (fun w hw => by omega), j0 16 (by omega) (fun w hw => by omega)]
      show G _ 58 [some (.ref 0), some (.int (nI i)), some (.int (nI j))] [.int (nI dn), .int (nI j), .int (nI i), .ref 16] F _
      refine g_callV (s_setD F (a := i) (b := j) (nI dn) (by omega) (by omega)) ok_X6_align_X5_setDistance (by decide +kernel) rfl (c := 5) rfl (by decide) rfl (Nat.le_of_ble_eq_true rfl) (fun r N' h => ?_) rfl
      obtain ⟨hr2, hN⟩ := h
      rw [hr2, hN]
      have hv : (if F 16 11 = 0 then nI dn else nI 8 * nI dn) = vvF sp dn := by unfold vvF; rw [f16]; by_cases c : A 16 11 = 0; rw [if_pos c, if_pos (hsp.mp c)]; rw [if_neg c, if_neg (fun z => c (hsp.mpr z))]
      show G _ 61 [some (.ref 0), some (.int (nI i)), some (.int (nI j))] [] (stB F i j (if F 16 11 = 0 then nI dn else nI 8 * nI dn)) _
      refine blk 6 [(.iinc 2 1, 0, 0, (nI 1)), (.goto (-26), 38, 0, 0)] [] (by decide +kernel) rfl (pc' := 38) (ls' := [some (.ref 0), some (.int (nI i)), some (.int (nI j + nI 1))]) (st' := []) (M' := (stB F i j (if F 16 11 = 0 then nI dn else nI 8 * nI dn))) rfl ⟨trivial, trivial, trivial⟩ ?_
      refine G.sub (ls' := [some (.ref 0), some (.int (nI i)), some (.int (nI (j + 1)))]) ?_ ⟨rfl, rfl, congrArg (fun z => some (Value.int z)) (by simp only [nI_add, nI_s1]), trivial⟩
      refine ih (d - 1) (by omega) (j + 1) _ (upd2 dd i j dn) (by omega) (by omega) (by omega) (fun z hz hw => ?_) (dsJ_step (by omega) (by omega) hJ hd1 hd3 hv (fun x hx => fz _ (by omega) (fun w hw => by omega)) hn5)
      unfold stB
      rw [stm_ne (by omega), stm_ne (by omega), fz z (by omega) hw]; exact j0 z hz hw
theorem l_al0_35 {A : Mem} {sp : Bool} {n : Nat} {ln : Nat → Nat} {Post : Option Value → Mem → Prop} (hn5 : n ≤ 5) (hc : clsOK A n ln) (hT6 : (A 0 6).toNatClampNeg = 37) (hsp : A 16 11 = 0 ↔ sp = false) (hp : ∀ N dd, (∀ z, (z < 4 ∨ (15 < z ∧ z < 26) ∨ 34 < z) → (∀ w, w < 5 → z ≠ 61 + w ∧ z ≠ 61 + w + 5) → N z = A z) → dsJ A N sp n ln dd n (n + 1) → G mX6_align 73 [some (.ref 0), none, none] [] N Post) : ∀ d i N dd, d = n - i → i ≤ n → (∀ z, (z < 4 ∨ (15 < z ∧ z < 26) ∨ 34 < z) → (∀ w, w < 5 → z ≠ 61 + w ∧ z ≠ 61 + w + 5) → N z = A z) → dsJ A N sp n ln dd i (i + 1) → G mX6_align 26 [some (.ref 0), some (.int (nI i)), none] [] N Post := by
  intro d
  induction d using Nat.strongRecOn with
  | ind d ih =>
    intro i N dd hd hi j0 hJ
    have hnN : N 0 7 = nI n := by rw [j0 0 (by omega) (fun w hw => by omega)]; exact hc.1
    refine blk 6 [(.iload_n 1, 0, 0, 0), (.aload_n 0, 0, 0, 0), (.getfield 67, 6, 7, 0)] [] (by decide +kernel) rfl (pc' := 31) (ls' := [some (.ref 0), some (.int (nI i)), none]) (st' := [.int (N 0 7), .int (nI i)]) (M' := N) rfl ⟨trivial, trivial, rfl, trivial⟩ ?_
    refine g_icmp_ge (off := 42) (tgt := 73) (by decide +kernel) (by decide) (fun c1 => ?_) (fun c1 => ?_)
    · have nc1 : n ≤ i := (nI_leI (by omega) (by omega)).mp (by simpa only [hnN, nI_add, pk_mul, nI_s1, n0_lit] using c1)
      have e : i = n := by omega
      subst e
      refine G.sub (ls' := [some (.ref 0), none, none]) ?_ ⟨rfl, trivial⟩
      exact hp N dd j0 hJ
    · have nc1 : i < n := by
        have z : ¬ nI n ≤ nI i := by simpa only [hnN, nI_add, pk_mul, nI_s1, n0_lit] using c1
        rw [nI_leI (by omega) (by omega)] at z
        omega
      refine blk 6 [(.iload_n 1, 0, 0, 0), (.iconst 1, 0, 0, (nI 1)), (.iadd, 0, 0, 0), (.istore_n 2, 0, 0, 0)] [] (by decide +kernel) rfl (pc' := 38) (ls' := [some (.ref 0), some (.int (nI i)), some (.int ((nI i) + (nI 1)))]) (st' := []) (M' := N) rfl ⟨trivial, trivial, trivial, trivial, trivial⟩ ?_
      refine G.sub (ls' := [some (.ref 0), some (.int (nI i)), some (.int (nI (i + 1)))]) ?_ ⟨rfl, rfl, congrArg (fun z => some (Value.int z)) (by simp only [nI_add, nI_s1]), trivial⟩
      exact l_al1_35 hn5 hc hT6 hsp (by omega) (fun N' dd' a1 a2 => ih (d - 1) (by omega) (i + 1) N' dd' (by omega) (by omega) a1 a2) _ (i + 1) N dd rfl (by omega) (by omega) j0 hJ
theorem clT_frame19 {D : Nat → Nat → Int32} {sp : Bool} {n : Nat} {h : Hist} {M N : Mem} (hf : ∀ z, 15 < z → z < 35 → z ≠ 19 → N z = M z) (hT : clT D sp n h M) (h9 : n + h.length ≤ 9 := by omega) : clT D sp n h N := by
  obtain ⟨t1, t2, t3, t4, t5, t6⟩ := hT
  refine ⟨?_, ?_, ?_, fun a ha => ?_, fun a h0 ha => ?_, fun a b ha hb => ?_⟩
  · rw [hf 16 (by omega) (by omega) (by omega)]; exact t1
  · rw [hf 16 (by omega) (by omega) (by omega)]; exact t2
  · rw [hf 16 (by omega) (by omega) (by omega)]; exact t3
  · rw [hf 20 (by omega) (by omega) (by omega), hf 21 (by omega) (by omega) (by omega), hf 22 (by omega) (by omega) (by omega), hf 23 (by omega) (by omega) (by omega)]; exact t4 a ha
  · rw [hf 17 (by omega) (by omega) (by omega), hf 18 (by omega) (by omega) (by omega)]; exact t5 a h0 ha
  · rw [hf (26 + a) (by omega) (by omega) (by omega)]; exact t6 a b ha hb
theorem s_align1_35 (M : Mem) {n : Nat} {ln : Nat → Nat} (hn1 : 1 ≤ n) (hn5 : n ≤ 5) (hc : clsOK M n ln) (hL5 : (M 0 5).toNatClampNeg = 35) (hT6 : (M 0 6).toNatClampNeg = 37) (hnb : M 0 9 = nI 0 ∨ M 0 9 = nI 1) (h24M : ∀ i, i < 5 → ps 11 (M 24 i)) : Spec mX6_align [.ref 0] M (alP M 51 n ln) := by
  refine Spec.of (by decide) (by simp [Value.category]) (Nat.le_of_ble_eq_true rfl) ?_
  refine blk 6 [(.aload_n 0, 0, 0, 0), (.getfield 67, 6, 7, 0)] [] (by decide +kernel) rfl (pc' := 4) (ls' := [some (.ref 0), none, none]) (st' := [.int (M 0 7)]) (M' := M) rfl ⟨trivial, rfl, trivial⟩ ?_
  refine g_if_ne (off := 5) (tgt := 9) (by decide +kernel) (by decide) (fun c1 => ?_) (fun c1 => ?_)
  · have nc1 : n ≠ 0 := by
      have z : ¬ nI n = nI 0 := by simpa only [hc.1, nI_add, pk_mul, nI_s1, n0_lit] using c1
      rw [nI_eq (by omega) (by omega)] at z
      omega
    refine blk 6 [(.aload_n 0, 0, 0, 0), (.getfield 41, 6, 4, 0), (.aload_n 0, 0, 0, 0), (.getfield 67, 6, 7, 0), (.aload_n 0, 0, 0, 0), (.getfield 90, 6, 9, 0)] [] (by decide +kernel) rfl (pc' := 21) (ls' := [some (.ref 0), none, none]) (st' := [.int (M 0 9), .int (M 0 7), .ref 16]) (M' := M) rfl ⟨trivial, rfl, trivial, rfl, trivial, rfl, trivial⟩ ?_
    rw [hc.1]
    refine g_callV (s_plant M (n := n) (nb := M 0 9) hn5 hnb) ok_X6_align_X5_plant (by decide +kernel) rfl (c := 5) rfl (by decide) rfl (Nat.le_of_ble_eq_true rfl) (fun r A h => ?_) rfl
    obtain ⟨hr, p1, p2, p3, p4, p5⟩ := h
    rw [hr]
    have az : ∀ z, z < 16 ∨ (16 < z ∧ z < 20) ∨ 23 < z → A z = M z := fun z hz => p5 z (by omega) (by omega) (by omega) (by omega) (by omega)
    have hcA : clsOK A n ln := clsOK_fr hn5 (by rw [az 0 (by omega)]) (fun z hz => az z (by omega)) hc
    show G _ 24 [some (.ref 0), none, none] [] A _
    refine blk 6 [(.iconst 0, 0, 0, (nI 0)), (.istore_n 1, 0, 0, 0)] [] (by decide +kernel) rfl (pc' := 26) (ls' := [some (.ref 0), some (.int (nI 0)), none]) (st' := []) (M' := A) rfl ⟨trivial, trivial, trivial⟩ ?_
    refine G.sub (ls' := [some (.ref 0), some (.int (nI 0)), none]) ?_ ⟨rfl, rfl, trivial⟩
    refine l_al0_35 (A := A) (sp := spOf (M 0 9)) (ln := ln) hn5 hcA (by rw [az 0 (by omega)]; exact hT6) (by rw [p3]; exact sp_iff) (fun N dd j0 hJ => ?_) _ 0 A (fun _ _ => 0) rfl (by omega) (fun _ _ _ => rfl) ⟨fun _ _ => rfl, fun _ _ => Nat.zero_le _, fun a b hs => absurd hs (by unfold scan; omega)⟩
    have hds : ∀ a b, a < b → b < n → distW M a b (ln a) (ln b) (dd a b) := fun a b hab hb => distW_congr (by rw [az 0 (by omega)]) (az 2 (by omega)) (az 3 (by omega)) (az 97 (by omega)) (az _ (by omega)) (az _ (by omega)) (hJ.2.2 a b ⟨hab, hb, by omega⟩).1
    have hT0 : clT (dI dd) (spOf (M 0 9)) n [] N := by
      have n16 : N 16 = A 16 := j0 16 (by omega) (fun w hw => by omega)
      refine ⟨by rw [n16]; exact p1, by rw [n16]; exact p2, by rw [n16, p3]; exact sp_iff, fun a ha => ?_, fun a h0 ha => absurd ha (Nat.not_lt.mpr h0), fun a b ha hb hab _ _ => ?_⟩
      · have ha : a < n := ha
        rw [j0 20 (by omega) (fun w hw => by omega), j0 21 (by omega) (fun w hw => by omega), j0 22 (by omega) (fun w hw => by omega), j0 23 (by omega) (fun w hw => by omega)]
        have := p4 a ha
        exact ⟨this.1.trans (bit_nI (by omega)), this.2.1, this.2.2.2, this.2.2.1⟩
      · have ha : a < n := ha
        have hb : b < n := hb
        rcases Nat.lt_or_ge a b with z | z
        · exact (hJ.2.2 a b ⟨z, hb, by omega⟩).2.1
        · have := (hJ.2.2 b a ⟨by omega, ha, by omega⟩).2.2; rw [hJ.1 b a] at this; exact this
    refine l_al2 hn1 hn5 hT0 (fun h A2 g1 g2 g3 g4 g5 g6 => ?_)
    have hok := picked_ok g2
    obtain ⟨ws, w1, w2⟩ := weights_all (wg := M 0 10) hn1 hn5 hJ.1 hJ.2.1 g1 g2
    have n0 : N 0 = M 0 := (j0 0 (by omega) (fun w hw => by omega)).trans (az 0 (by omega))
    have nz : ∀ z, (z = 1 ∨ z = 2 ∨ z = 3 ∨ (34 < z ∧ z < 51) ∨ 70 < z) → A2 z = M z := fun z hz => by rw [g6 z (by omega), j0 z (by omega) (fun w hw => by omega)]; exact az z (by omega)
    have n20 : A2 0 = M 0 := by rw [g6 0 (by omega), n0]
    have hc2 : clsOK A2 n ln := clsOK_fr hn5 (by rw [n20]) (fun z hz => nz z (by omega)) hc
    have h24 : ∀ i, i < n → A2 24 i = nI (ws i) := fun i hi => by rw [g4 i hi, n0]; exact w2 i hi
    have h24' : ∀ i, n ≤ i → A2 24 i = M 24 i := fun i hi => by rw [g5 i hi, j0 24 (by omega) (fun w hw => by omega)]; exact congrFun (az 24 (by omega)) i
    have hd : dataOK A2 24 := ⟨fun i hi => by
      by_cases c : i < n
      · rw [h24 i c]; have := w1 i c; unfold ps; rw [nI_toInt (by omega)]; omega
      · rw [h24' i (by omega)]; exact h24M i hi, hc2.2.2.2.1, hc2.2.2.2.2.1, hc2.2.2.2.2.2⟩
    refine l_al3_35 hc2.1 hn5 (by rw [n20]; exact hL5) hc2.2.1 (fun N' c1 c2 => ?_) _ 0 A2 rfl (by omega) (fun a h => absurd h (by omega)) (fun _ _ => rfl)
    have c2' : ∀ z, z < 51 ∨ 70 < z → N' z = A2 z := fun z hz => c2 z (fun a ha => by omega)
    have hT' : clT (dI dd) (spOf (M 0 9)) n h N' := clT_frame (fun z h1 h2 _ => c2' z (by omega)) g3
    refine l_al4_35 (ln := ln) (by rw [c2' 0 (by omega)]; exact hc2.1) hn1 hn5 g1 hok hT' (by rw [c2' 0 (by omega), n20]; exact hL5) (by unfold dataOK; rw [c2' 24 (by omega), c2' 3 (by omega), c2' 2 (by omega)]; exact hd) (fun i hi => ?_) (fun N1 hmu W hW => ?_)
    · have q := hc2.2.1 i hi
      refine ⟨q.2.1, q.2.2.1, (c1 i hi).1, fun c hc' => ?_⟩
      rw [(c1 i hi).2 c hc', c2' (41 + i + 5) (by omega)]
      exact ⟨rfl, q.2.2.2 c hc'⟩
    · obtain ⟨_, wd, ce, wt, q0, q1, q4, q2, q3⟩ := hmu
      have q0' : ∀ z, (z < 4 ∨ (15 < z ∧ z < 51 ∧ z ≠ 19) ∨ 70 < z) → N1 z = A2 z := fun z hz => by rw [q0 z (by omega) (by omega) (fun w hw => by omega)]; exact c2' z (by omega)
      have e1 := (q2 0 (by omega) ((root_has hn1 hn5 g1 hok (by omega)).mpr (by omega))).1
      refine ⟨dd, h, ws, wd, ce, wt, ⟨hJ.1, hJ.2.1, hds⟩, g1, g2, ?_, w1, fun i hi => ⟨?_, w2 i hi⟩, fun i hi h1 => ?_, q1, fun i hi => ⟨(q4 i hi).1, fun c hcc => ?_⟩, fun w hw hx => ?_, fun j h0 hj => ⟨?_, mrgW_congr ?_ ?_ ?_ (q3 j h0 hj).2⟩, ?_, ?_, fun f hf => ?_, fun z hz => ?_⟩
      · exact clT_frame (M := N1) (fun z h1 h2 _ => stm_ne (by omega)) (clT_frame19 (fun z h1 h2 h3 => q0' z (by omega)) g3)
      · rw [stm_ne (by decide), q0' 24 (by omega)]; exact h24 i hi
      · rw [stm_ne (by decide), q0' 24 (by omega)]; exact h24' i h1
      · rw [(q4 i hi).2 c hcc, c2' (41 + i + 5) (by omega), nz (41 + i + 5) (by omega)]
      · rw [stm_ne (by omega), stm_ne (by omega)]; exact q2 w hw hx
      · rw [stm_ne (by decide)]; exact (q3 j h0 hj).1
      · rw [stm_ne (by decide), q0' 2 (by omega), c2' 2 (by omega)]
      · rw [stm_ne (by decide), q0' 3 (by omega), c2' 3 (by omega)]
      · rw [stm_ne (by decide), q0' 24 (by omega), c2' 24 (by omega)]
      · rw [← hW]; exact congrArg (fun z => some (Value.int z)) e1
      · rw [stm_self]
      · rw [stm_off hf, q0' 0 (by omega), n20]
      · rw [stm_ne (by omega), q0' z (by omega)]; exact nz z hz
  · have nc1 : n = 0 := (nI_eq (by omega) (by omega)).mp (by simpa only [hc.1, nI_add, pk_mul, nI_s1, n0_lit] using c1)
    refine blk 6 [(.iconst (-1), 0, 0, (-1))] [] (by decide +kernel) rfl (pc' := 8) (ls' := [some (.ref 0), none, none]) (st' := [.int (-1)]) (M' := M) rfl ⟨trivial, trivial⟩ ?_
    exfalso
    omega
theorem l_al1_37 {A : Mem} {sp : Bool} {n i : Nat} {ln : Nat → Nat} {Post : Option Value → Mem → Prop} (hn5 : n ≤ 5) (hc : clsOK A n ln) (hT6 : (A 0 6).toNatClampNeg = 35) (hsp : A 16 11 = 0 ↔ sp = false) (hi : i < n) (hp : ∀ N dd, (∀ z, (z < 4 ∨ (15 < z ∧ z < 26) ∨ 34 < z) → (∀ w, w < 5 → z ≠ 51 + w ∧ z ≠ 51 + w + 5) → N z = A z) → dsJ A N sp n ln dd (i + 1) (i + 2) → G mX6_align 26 [some (.ref 0), some (.int (nI (i + 1))), none] [] N Post) : ∀ d j N dd, d = n - j → i < j → j ≤ n → (∀ z, (z < 4 ∨ (15 < z ∧ z < 26) ∨ 34 < z) → (∀ w, w < 5 → z ≠ 51 + w ∧ z ≠ 51 + w + 5) → N z = A z) → dsJ A N sp n ln dd i j → G mX6_align 38 [some (.ref 0), some (.int (nI i)), some (.int (nI j))] [] N Post := by
  intro d
  induction d using Nat.strongRecOn with
  | ind d ih =>
    intro j N dd hd hij hj j0 hJ
    have hnN : N 0 7 = nI n := by rw [j0 0 (by omega) (fun w hw => by omega)]; exact hc.1
    refine blk 6 [(.iload_n 2, 0, 0, 0), (.aload_n 0, 0, 0, 0), (.getfield 67, 6, 7, 0)] [] (by decide +kernel) rfl (pc' := 43) (ls' := [some (.ref 0), some (.int (nI i)), some (.int (nI j))]) (st' := [.int (N 0 7), .int (nI j)]) (M' := N) rfl ⟨trivial, trivial, rfl, trivial⟩ ?_
    refine g_icmp_ge (off := 24) (tgt := 67) (by decide +kernel) (by decide) (fun c1 => ?_) (fun c1 => ?_)
    · have nc1 : n ≤ j := (nI_leI (by omega) (by omega)).mp (by simpa only [hnN, nI_add, pk_mul, nI_s1, n0_lit] using c1)
      refine blk 6 [(.iinc 1 1, 0, 0, (nI 1)), (.goto (-44), 26, 0, 0)] [] (by decide +kernel) rfl (pc' := 26) (ls' := [some (.ref 0), some (.int (nI i + nI 1)), some (.int (nI j))]) (st' := []) (M' := N) rfl ⟨trivial, trivial, trivial⟩ ?_
      refine G.sub (ls' := [some (.ref 0), some (.int (nI (i + 1))), none]) ?_ ⟨rfl, congrArg (fun z => some (Value.int z)) (by simp only [nI_add, nI_s1]), trivial⟩
      exact hp _ _ j0 (dsJ_row (by omega) hJ)
    · have nc1 : j < n := by
        have z : ¬ nI n ≤ nI j := by simpa only [hnN, nI_add, pk_mul, nI_s1, n0_lit] using c1
        rw [nI_leI (by omega) (by omega)] at z
        omega
      refine blk 6 [(.aload_n 0, 0, 0, 0), (.getfield 41, 6, 4, 0), (.iload_n 1, 0, 0, 0), (.iload_n 2, 0, 0, 0), (.aload_n 0, 0, 0, 0), (.iload_n 1, 0, 0, 0), (.iload_n 2, 0, 0, 0)] [] (by decide +kernel) rfl (pc' := 55) (ls' := [some (.ref 0), some (.int (nI i)), some (.int (nI j))]) (st' := [.int (nI j), .int (nI i), .ref 0, .int (nI j), .int (nI i), .ref 16]) (M' := N) rfl ⟨trivial, rfl, trivial, trivial, trivial, trivial, trivial, trivial⟩ ?_
      have hcN := clsOK_fr hn5 (by rw [j0 0 (by omega) (fun w hw => by omega)]) (fun z hz => j0 z (by omega) (fun w hw => by omega)) hc
      have hTN : (N 0 6).toNatClampNeg = 35 := by rw [j0 0 (by omega) (fun w hw => by omega)]; exact hT6
      have hor : ord2 i j i j (ln i) (ln j) (ln i) (ln j) := Or.inl ⟨by omega, rfl, rfl, rfl, rfl⟩
      refine g_callV (s_dist1_35 N (i := i) (j := j) (lo := i) (hi := j) (li := ln i) (lj := ln j) (a := ln i) (b := ln j) (by rw [hcN.1]; exact two_true hn5 (by omega) (by omega) (by omega)) hTN (by omega) (by omega) hor (hcN.2.1 i (by omega)) (hcN.2.1 j (by omega)) hcN.2.2.1 hcN.2.2.2.1 hcN.2.2.2.2.1 hcN.2.2.2.2.2) ok_X6_align_X6_distance (by decide +kernel) rfl (c := 6) rfl (by decide) rfl (Nat.le_of_ble_eq_true rfl) (fun r F hF => ?_) rfl
      obtain ⟨dn, hd1, hr, hd2⟩ := dist_class (Or.inl rfl) (by omega) (by omega) hor (hcN.2.1 i (by omega)) (hcN.2.1 j (by omega)) hF
      have fz := cd_frame (by omega) (by omega) hF
      rw [hr]
      have hd3 : distW A i j (ln i) (ln j) dn := distW_congr (by rw [j0 0 (by omega) (fun w hw => by omega)]) (j0 2 (by omega) (fun w hw => by omega)) (j0 3 (by omega) (fun w hw => by omega)) (j0 97 (by omega) (fun w hw => by omega)) (j0 _ (by omega) (fun w hw => by omega)) (j0 _ (by omega) (fun w hw => by omega)) hd2
      have f16 : F 16 11 = A 16 11 := by rw [fz 16 (by omega) (fun w hw => by omega), j0 16 (by omega) (fun w hw => by omega)]
      show G _ 58 [some (.ref 0), some (.int (nI i)), some (.int (nI j))] [.int (nI dn), .int (nI j), .int (nI i), .ref 16] F _
      refine g_callV (s_setD F (a := i) (b := j) (nI dn) (by omega) (by omega)) ok_X6_align_X5_setDistance (by decide +kernel) rfl (c := 5) rfl (by decide) rfl (Nat.le_of_ble_eq_true rfl) (fun r N' h => ?_) rfl
      obtain ⟨hr2, hN⟩ := h
      rw [hr2, hN]
      have hv : (if F 16 11 = 0 then nI dn else nI 8 * nI dn) = vvF sp dn := by unfold vvF; rw [f16]; by_cases c : A 16 11 = 0; rw [if_pos c, if_pos (hsp.mp c)]; rw [if_neg c, if_neg (fun z => c (hsp.mpr z))]
      show G _ 61 [some (.ref 0), some (.int (nI i)), some (.int (nI j))] [] (stB F i j (if F 16 11 = 0 then nI dn else nI 8 * nI dn)) _
      refine blk 6 [(.iinc 2 1, 0, 0, (nI 1)), (.goto (-26), 38, 0, 0)] [] (by decide +kernel) rfl (pc' := 38) (ls' := [some (.ref 0), some (.int (nI i)), some (.int (nI j + nI 1))]) (st' := []) (M' := (stB F i j (if F 16 11 = 0 then nI dn else nI 8 * nI dn))) rfl ⟨trivial, trivial, trivial⟩ ?_
      refine G.sub (ls' := [some (.ref 0), some (.int (nI i)), some (.int (nI (j + 1)))]) ?_ ⟨rfl, rfl, congrArg (fun z => some (Value.int z)) (by simp only [nI_add, nI_s1]), trivial⟩
      refine ih (d - 1) (by omega) (j + 1) _ (upd2 dd i j dn) (by omega) (by omega) (by omega) (fun z hz hw => ?_) (dsJ_step (by omega) (by omega) hJ hd1 hd3 hv (fun x hx => fz _ (by omega) (fun w hw => by omega)) hn5)
      unfold stB
      rw [stm_ne (by omega), stm_ne (by omega), fz z (by omega) hw]; exact j0 z hz hw
theorem l_al0_37 {A : Mem} {sp : Bool} {n : Nat} {ln : Nat → Nat} {Post : Option Value → Mem → Prop} (hn5 : n ≤ 5) (hc : clsOK A n ln) (hT6 : (A 0 6).toNatClampNeg = 35) (hsp : A 16 11 = 0 ↔ sp = false) (hp : ∀ N dd, (∀ z, (z < 4 ∨ (15 < z ∧ z < 26) ∨ 34 < z) → (∀ w, w < 5 → z ≠ 51 + w ∧ z ≠ 51 + w + 5) → N z = A z) → dsJ A N sp n ln dd n (n + 1) → G mX6_align 73 [some (.ref 0), none, none] [] N Post) : ∀ d i N dd, d = n - i → i ≤ n → (∀ z, (z < 4 ∨ (15 < z ∧ z < 26) ∨ 34 < z) → (∀ w, w < 5 → z ≠ 51 + w ∧ z ≠ 51 + w + 5) → N z = A z) → dsJ A N sp n ln dd i (i + 1) → G mX6_align 26 [some (.ref 0), some (.int (nI i)), none] [] N Post := by
  intro d
  induction d using Nat.strongRecOn with
  | ind d ih =>
    intro i N dd hd hi j0 hJ
    have hnN : N 0 7 = nI n := by rw [j0 0 (by omega) (fun w hw => by omega)]; exact hc.1
    refine blk 6 [(.iload_n 1, 0, 0, 0), (.aload_n 0, 0, 0, 0), (.getfield 67, 6, 7, 0)] [] (by decide +kernel) rfl (pc' := 31) (ls' := [some (.ref 0), some (.int (nI i)), none]) (st' := [.int (N 0 7), .int (nI i)]) (M' := N) rfl ⟨trivial, trivial, rfl, trivial⟩ ?_
    refine g_icmp_ge (off := 42) (tgt := 73) (by decide +kernel) (by decide) (fun c1 => ?_) (fun c1 => ?_)
    · have nc1 : n ≤ i := (nI_leI (by omega) (by omega)).mp (by simpa only [hnN, nI_add, pk_mul, nI_s1, n0_lit] using c1)
      have e : i = n := by omega
      subst e
      refine G.sub (ls' := [some (.ref 0), none, none]) ?_ ⟨rfl, trivial⟩
      exact hp N dd j0 hJ
    · have nc1 : i < n := by
        have z : ¬ nI n ≤ nI i := by simpa only [hnN, nI_add, pk_mul, nI_s1, n0_lit] using c1
        rw [nI_leI (by omega) (by omega)] at z
        omega
      refine blk 6 [(.iload_n 1, 0, 0, 0), (.iconst 1, 0, 0, (nI 1)), (.iadd, 0, 0, 0), (.istore_n 2, 0, 0, 0)] [] (by decide +kernel) rfl (pc' := 38) (ls' := [some (.ref 0), some (.int (nI i)), some (.int ((nI i) + (nI 1)))]) (st' := []) (M' := N) rfl ⟨trivial, trivial, trivial, trivial, trivial⟩ ?_
      refine G.sub (ls' := [some (.ref 0), some (.int (nI i)), some (.int (nI (i + 1)))]) ?_ ⟨rfl, rfl, congrArg (fun z => some (Value.int z)) (by simp only [nI_add, nI_s1]), trivial⟩
      exact l_al1_37 hn5 hc hT6 hsp (by omega) (fun N' dd' a1 a2 => ih (d - 1) (by omega) (i + 1) N' dd' (by omega) (by omega) a1 a2) _ (i + 1) N dd rfl (by omega) (by omega) j0 hJ
theorem s_align1_37 (M : Mem) {n : Nat} {ln : Nat → Nat} (hn1 : 1 ≤ n) (hn5 : n ≤ 5) (hc : clsOK M n ln) (hL5 : (M 0 5).toNatClampNeg = 37) (hT6 : (M 0 6).toNatClampNeg = 35) (hnb : M 0 9 = nI 0 ∨ M 0 9 = nI 1) (h24M : ∀ i, i < 5 → ps 11 (M 24 i)) : Spec mX6_align [.ref 0] M (alP M 61 n ln) := by
  refine Spec.of (by decide) (by simp [Value.category]) (Nat.le_of_ble_eq_true rfl) ?_
  refine blk 6 [(.aload_n 0, 0, 0, 0), (.getfield 67, 6, 7, 0)] [] (by decide +kernel) rfl (pc' := 4) (ls' := [some (.ref 0), none, none]) (st' := [.int (M 0 7)]) (M' := M) rfl ⟨trivial, rfl, trivial⟩ ?_
  refine g_if_ne (off := 5) (tgt := 9) (by decide +kernel) (by decide) (fun c1 => ?_) (fun c1 => ?_)
  · have nc1 : n ≠ 0 := by
      have z : ¬ nI n = nI 0 := by simpa only [hc.1, nI_add, pk_mul, nI_s1, n0_lit] using c1
      rw [nI_eq (by omega) (by omega)] at z
      omega
    refine blk 6 [(.aload_n 0, 0, 0, 0), (.getfield 41, 6, 4, 0), (.aload_n 0, 0, 0, 0), (.getfield 67, 6, 7, 0), (.aload_n 0, 0, 0, 0), (.getfield 90, 6, 9, 0)] [] (by decide +kernel) rfl (pc' := 21) (ls' := [some (.ref 0), none, none]) (st' := [.int (M 0 9), .int (M 0 7), .ref 16]) (M' := M) rfl ⟨trivial, rfl, trivial, rfl, trivial, rfl, trivial⟩ ?_
    rw [hc.1]
    refine g_callV (s_plant M (n := n) (nb := M 0 9) hn5 hnb) ok_X6_align_X5_plant (by decide +kernel) rfl (c := 5) rfl (by decide) rfl (Nat.le_of_ble_eq_true rfl) (fun r A h => ?_) rfl
    obtain ⟨hr, p1, p2, p3, p4, p5⟩ := h
    rw [hr]
    have az : ∀ z, z < 16 ∨ (16 < z ∧ z < 20) ∨ 23 < z → A z = M z := fun z hz => p5 z (by omega) (by omega) (by omega) (by omega) (by omega)
    have hcA : clsOK A n ln := clsOK_fr hn5 (by rw [az 0 (by omega)]) (fun z hz => az z (by omega)) hc
    show G _ 24 [some (.ref 0), none, none] [] A _
    refine blk 6 [(.iconst 0, 0, 0, (nI 0)), (.istore_n 1, 0, 0, 0)] [] (by decide +kernel) rfl (pc' := 26) (ls' := [some (.ref 0), some (.int (nI 0)), none]) (st' := []) (M' := A) rfl ⟨trivial, trivial, trivial⟩ ?_
    refine G.sub (ls' := [some (.ref 0), some (.int (nI 0)), none]) ?_ ⟨rfl, rfl, trivial⟩
    refine l_al0_37 (A := A) (sp := spOf (M 0 9)) (ln := ln) hn5 hcA (by rw [az 0 (by omega)]; exact hT6) (by rw [p3]; exact sp_iff) (fun N dd j0 hJ => ?_) _ 0 A (fun _ _ => 0) rfl (by omega) (fun _ _ _ => rfl) ⟨fun _ _ => rfl, fun _ _ => Nat.zero_le _, fun a b hs => absurd hs (by unfold scan; omega)⟩
    have hds : ∀ a b, a < b → b < n → distW M a b (ln a) (ln b) (dd a b) := fun a b hab hb => distW_congr (by rw [az 0 (by omega)]) (az 2 (by omega)) (az 3 (by omega)) (az 97 (by omega)) (az _ (by omega)) (az _ (by omega)) (hJ.2.2 a b ⟨hab, hb, by omega⟩).1
    have hT0 : clT (dI dd) (spOf (M 0 9)) n [] N := by
      have n16 : N 16 = A 16 := j0 16 (by omega) (fun w hw => by omega)
      refine ⟨by rw [n16]; exact p1, by rw [n16]; exact p2, by rw [n16, p3]; exact sp_iff, fun a ha => ?_, fun a h0 ha => absurd ha (Nat.not_lt.mpr h0), fun a b ha hb hab _ _ => ?_⟩
      · have ha : a < n := ha
        rw [j0 20 (by omega) (fun w hw => by omega), j0 21 (by omega) (fun w hw => by omega), j0 22 (by omega) (fun w hw => by omega), j0 23 (by omega) (fun w hw => by omega)]
        have := p4 a ha
        exact ⟨this.1.trans (bit_nI (by omega)), this.2.1, this.2.2.2, this.2.2.1⟩
      · have ha : a < n := ha
        have hb : b < n := hb
        rcases Nat.lt_or_ge a b with z | z
        · exact (hJ.2.2 a b ⟨z, hb, by omega⟩).2.1
        · have := (hJ.2.2 b a ⟨by omega, ha, by omega⟩).2.2; rw [hJ.1 b a] at this; exact this
    refine l_al2 hn1 hn5 hT0 (fun h A2 g1 g2 g3 g4 g5 g6 => ?_)
    have hok := picked_ok g2
    obtain ⟨ws, w1, w2⟩ := weights_all (wg := M 0 10) hn1 hn5 hJ.1 hJ.2.1 g1 g2
    have n0 : N 0 = M 0 := (j0 0 (by omega) (fun w hw => by omega)).trans (az 0 (by omega))
    have nz : ∀ z, (z = 1 ∨ z = 2 ∨ z = 3 ∨ (34 < z ∧ z < 51) ∨ 70 < z) → A2 z = M z := fun z hz => by rw [g6 z (by omega), j0 z (by omega) (fun w hw => by omega)]; exact az z (by omega)
    have n20 : A2 0 = M 0 := by rw [g6 0 (by omega), n0]
    have hc2 : clsOK A2 n ln := clsOK_fr hn5 (by rw [n20]) (fun z hz => nz z (by omega)) hc
    have h24 : ∀ i, i < n → A2 24 i = nI (ws i) := fun i hi => by rw [g4 i hi, n0]; exact w2 i hi
    have h24' : ∀ i, n ≤ i → A2 24 i = M 24 i := fun i hi => by rw [g5 i hi, j0 24 (by omega) (fun w hw => by omega)]; exact congrFun (az 24 (by omega)) i
    have hd : dataOK A2 24 := ⟨fun i hi => by
      by_cases c : i < n
      · rw [h24 i c]; have := w1 i c; unfold ps; rw [nI_toInt (by omega)]; omega
      · rw [h24' i (by omega)]; exact h24M i hi, hc2.2.2.2.1, hc2.2.2.2.2.1, hc2.2.2.2.2.2⟩
    refine l_al3_37 hc2.1 hn5 (by rw [n20]; exact hL5) hc2.2.1 (fun N' c1 c2 => ?_) _ 0 A2 rfl (by omega) (fun a h => absurd h (by omega)) (fun _ _ => rfl)
    have c2' : ∀ z, z < 51 ∨ 70 < z → N' z = A2 z := fun z hz => c2 z (fun a ha => by omega)
    have hT' : clT (dI dd) (spOf (M 0 9)) n h N' := clT_frame (fun z h1 h2 _ => c2' z (by omega)) g3
    refine l_al4_37 (ln := ln) (by rw [c2' 0 (by omega)]; exact hc2.1) hn1 hn5 g1 hok hT' (by rw [c2' 0 (by omega), n20]; exact hL5) (by unfold dataOK; rw [c2' 24 (by omega), c2' 3 (by omega), c2' 2 (by omega)]; exact hd) (fun i hi => ?_) (fun N1 hmu W hW => ?_)
    · have q := hc2.2.1 i hi
      refine ⟨q.2.1, q.2.2.1, (c1 i hi).1, fun c hc' => ?_⟩
      rw [(c1 i hi).2 c hc', c2' (41 + i + 5) (by omega)]
      exact ⟨rfl, q.2.2.2 c hc'⟩
    · obtain ⟨_, wd, ce, wt, q0, q1, q4, q2, q3⟩ := hmu
      have q0' : ∀ z, (z < 4 ∨ (15 < z ∧ z < 51 ∧ z ≠ 19) ∨ 70 < z) → N1 z = A2 z := fun z hz => by rw [q0 z (by omega) (by omega) (fun w hw => by omega)]; exact c2' z (by omega)
      have e1 := (q2 0 (by omega) ((root_has hn1 hn5 g1 hok (by omega)).mpr (by omega))).1
      refine ⟨dd, h, ws, wd, ce, wt, ⟨hJ.1, hJ.2.1, hds⟩, g1, g2, ?_, w1, fun i hi => ⟨?_, w2 i hi⟩, fun i hi h1 => ?_, q1, fun i hi => ⟨(q4 i hi).1, fun c hcc => ?_⟩, fun w hw hx => ?_, fun j h0 hj => ⟨?_, mrgW_congr ?_ ?_ ?_ (q3 j h0 hj).2⟩, ?_, ?_, fun f hf => ?_, fun z hz => ?_⟩
      · exact clT_frame (M := N1) (fun z h1 h2 _ => stm_ne (by omega)) (clT_frame19 (fun z h1 h2 h3 => q0' z (by omega)) g3)
      · rw [stm_ne (by decide), q0' 24 (by omega)]; exact h24 i hi
      · rw [stm_ne (by decide), q0' 24 (by omega)]; exact h24' i h1
      · rw [(q4 i hi).2 c hcc, c2' (41 + i + 5) (by omega), nz (41 + i + 5) (by omega)]
      · rw [stm_ne (by omega), stm_ne (by omega)]; exact q2 w hw hx
      · rw [stm_ne (by decide)]; exact (q3 j h0 hj).1
      · rw [stm_ne (by decide), q0' 2 (by omega), c2' 2 (by omega)]
      · rw [stm_ne (by decide), q0' 3 (by omega), c2' 3 (by omega)]
      · rw [stm_ne (by decide), q0' 24 (by omega), c2' 24 (by omega)]
      · rw [← hW]; exact congrArg (fun z => some (Value.int z)) e1
      · rw [stm_self]
      · rw [stm_off hf, q0' 0 (by omega), n20]
      · rw [stm_ne (by omega), q0' z (by omega)]; exact nz z hz
  · have nc1 : n = 0 := (nI_eq (by omega) (by omega)).mp (by simpa only [hc.1, nI_add, pk_mul, nI_s1, n0_lit] using c1)
    refine blk 6 [(.iconst (-1), 0, 0, (-1))] [] (by decide +kernel) rfl (pc' := 8) (ls' := [some (.ref 0), none, none]) (st' := [.int (-1)]) (M' := M) rfl ⟨trivial, trivial⟩ ?_
    exfalso
    omega
theorem s_align0 (M : Mem) (h0 : M 0 7 = 0) : Spec mX6_align [.ref 0] M (Ret (-1) M) := by
  refine Spec.of (by decide) (by simp [Value.category]) (Nat.le_of_ble_eq_true rfl) ?_
  refine blk 6 [(.aload_n 0, 0, 0, 0), (.getfield 67, 6, 7, 0)] [] (by decide +kernel) rfl (pc' := 4) (ls' := [some (.ref 0), none, none]) (st' := [.int (M 0 7)]) (M' := M) rfl ⟨trivial, rfl, trivial⟩ ?_
  refine g_if_ne (off := 5) (tgt := 9) (by decide +kernel) (by decide) (fun c1 => ?_) (fun c1 => ?_)
  · exact absurd h0 (by assumption)
  · refine blk 6 [(.iconst (-1), 0, 0, (-1))] [] (by decide +kernel) rfl (pc' := 8) (ls' := [some (.ref 0), none, none]) (st' := [.int (-1)]) (M' := M) rfl ⟨trivial, trivial⟩ ?_
    exact g_ireturn (by decide +kernel) rfl rfl ⟨rfl, rfl⟩
