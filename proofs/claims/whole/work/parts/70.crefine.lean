/-! the class's refine -/
/-- which sheet is the layout -/
def shAt (M : Mem) (B : Nat) : Prop := (B = 51 ∧ M 0 5 = nI 35 ∧ M 0 6 = nI 37) ∨ (B = 61 ∧ M 0 5 = nI 37 ∧ M 0 6 = nI 35)
def rfP (C : Mem) (B B2 n W : Nat) (ln : Nat → Nat) (i : Nat) (b : Bool) (N : Mem) : Prop := ∃ (T F : Mem) (r0 : Option Value) (m : Nat), turnW C B B2 n W ln i T F r0 m ∧ (b = true ↔ totC C B W n < totC F B2 m n) ∧ (∀ a, a < n → N (B2 + a) = F (B2 + a) ∧ N (B2 + a + 5) = F (B2 + a + 5)) ∧ (∀ a, a < 5 → N (B + a) = C (B + a) ∧ N (B + a + 5) = C (B + a + 5)) ∧ (∀ f, f ≠ 5 → f ≠ 6 → N 0 f = C 0 f) ∧ (∀ z, (0 < z ∧ z < 4) ∨ (15 < z ∧ z < 51) ∨ 70 < z → N z = C z) ∧ shAt N (if b then B2 else B)
theorem totC_congr {C F : Mem} {B W n : Nat} (h2 : F 2 = C 2) (h3 : F 3 = C 3) (h24 : F 24 = C 24) (hr : ∀ a, a < n → F (B + a + 5) = C (B + a + 5)) : totC F B W n = totC C B W n := by
  unfold totC
  refine psum_congr (fun i hi => psum_congr (fun j hj => ?_))
  unfold sopF
  rw [h2, h3, h24, hr i hi, hr (i + 1 + j) (by omega)]
theorem wrd_true {n i : Nat} (hn : n ≤ 5) (hi : i < n) : wrdB (nI n) (nI i) = true := by
  unfold wrdB
  refine decide_eq_true ⟨fun z => ?_, fun z => ?_⟩
  · have := (nI_ltI (a := i) (b := 0) (by omega) (by omega)).mp (by rw [nI_0]; exact z)
    omega
  · have := (nI_leI (by omega) (by omega)).mp z
    omega
theorem l_rf_35 {M : Mem} {n W i : Nat} {ln ws : Nat → Nat} (hn : M 0 7 = nI n) (hn2 : 2 ≤ n) (hn5 : n ≤ 5) (hi : i < n) (hl : ¬ M 0 11 = 0) (hL : M 0 5 = nI 35) (hT : M 0 6 = nI 37) (hc : clsOK M n ln) (hy : layC M 51 n W ln ws) : G mX6_refine 49 [some (.ref 0), some (.int (nI i)), some (.int (nI (othF n i))), none] [] M (fun r N => ∃ b, r = some (.int (bI b)) ∧ rfP M 51 61 n W ln i b N) := by
  have hTM : (M 0 6).toNatClampNeg = 37 := by rw [hT]; decide +kernel
  have hLM : (M 0 5).toNatClampNeg = 35 := by rw [hL]; decide +kernel
  refine blk 6 [(.aload_n 0, 0, 0, 0), (.getfield 52, 6, 6, 0)] [] (by decide +kernel) rfl (pc' := 53) (ls' := [some (.ref 0), some (.int (nI i)), some (.int (nI (othF n i))), none]) (st' := [.ref ((M 0 6).toNatClampNeg)]) (M' := M) rfl ⟨trivial, rfl, trivial⟩ ?_
  rw [show (M 0 6).toNatClampNeg = 37 from hTM]
  refine blk 6 [(.aload_n 0, 0, 0, 0), (.getfield 48, 6, 5, 0)] [] (by decide +kernel) rfl (pc' := 57) (ls' := [some (.ref 0), some (.int (nI i)), some (.int (nI (othF n i))), none]) (st' := [.ref ((M 0 5).toNatClampNeg), .ref 37]) (M' := M) rfl ⟨trivial, rfl, trivial⟩ ?_
  rw [show (M 0 5).toNatClampNeg = 35 from hLM]
  refine blk 6 [(.iload_n 2, 0, 0, 0)] [] (by decide +kernel) rfl (pc' := 58) (ls' := [some (.ref 0), some (.int (nI i)), some (.int (nI (othF n i))), none]) (st' := [.int (nI (othF n i)), .ref 35, .ref 37]) (M' := M) rfl ⟨trivial, trivial⟩ ?_
  refine g_callV (s_cpw37 M (nI (othF n i)) (Wd0 := W) hy.1.1 (hy.1.2 0 (by omega)).1) ok_X6_refine_X3_copyWithout (by decide +kernel) rfl (c := 3) rfl (by decide) rfl (Nat.le_of_ble_eq_true rfl) (fun r A hA => ?_) rfl
  obtain ⟨hr, a1, a2, a3⟩ := hA
  rw [hr]
  have hTA : (A 0 6).toNatClampNeg = 37 := by rw [a3 0 (fun a ha => by omega), hT]; decide +kernel
  have kA : ∀ z, (z < 61 ∨ 61 + 9 < z) → A z = M z := fun z hz => a3 z (fun a ha => by omega)
  show G _ 61 [some (.ref 0), some (.int (nI i)), some (.int (nI (othF n i))), none] [] A _
  refine blk 6 [(.aload_n 0, 0, 0, 0), (.getfield 52, 6, 6, 0)] [] (by decide +kernel) rfl (pc' := 65) (ls' := [some (.ref 0), some (.int (nI i)), some (.int (nI (othF n i))), none]) (st' := [.ref ((A 0 6).toNatClampNeg)]) (M' := A) rfl ⟨trivial, rfl, trivial⟩ ?_
  rw [show (A 0 6).toNatClampNeg = 37 from hTA]
  refine blk 6 [(.getfield 120, 3, 0, 0), (.iload_n 1, 0, 0, 0), (.aaload, 0, 0, 0), (.aload_n 0, 0, 0, 0), (.getfield 11, 6, 0, 0), (.iload_n 1, 0, 0, 0), (.aaload, 0, 0, 0)] [i, i] (by decide +kernel) rfl (pc' := 76) (ls' := [some (.ref 0), some (.int (nI i)), some (.int (nI (othF n i))), none]) (st' := [.ref (41 + i), .ref (61 + i)]) (M' := A) rfl ⟨rfl, trivial, ⟨rfl, (by show _ < 5; omega)⟩, trivial, rfl, trivial, ⟨rfl, (by show _ < 5; omega)⟩, trivial⟩ ?_
  have hwi := hc.2.1 i hi
  refine g_callV (s_copy A (t := 61 + i) (u := 41 + i) (w := ln i) (kd61 (by omega)) (kd41 (by omega)) (by rw [kA _ (by omega)]; exact hwi.1) (by rw [al66 (by omega)]; have := hwi.2.2.1; omega) (by rw [al46 (by omega)]; have := hwi.2.2.1; omega) (by omega) (by omega) (kd66 (by omega)) (kd46 (by omega)) (by omega)) ok_X6_refine_X2_copy (by decide +kernel) rfl (c := 2) (kd61 (by omega)) (by decide) rfl (Nat.le_of_ble_eq_true rfl) (fun r T hX => ?_) (by rfl)
  obtain ⟨hr2, c1, c2, c3⟩ := hX
  rw [hr2]
  have kT : ∀ z, (z < 61 ∨ 61 + 9 < z) → T z = M z := fun z hz => by rw [c3 z (by omega) (by omega)]; exact kA z hz
  have hTT : (T 0 6).toNatClampNeg = 37 := by rw [kT 0 (by omega), hT]; decide +kernel
  have t1 : ∀ a, a < n → a ≠ i → ∀ c, c < W → kpF M 51 n i c = true → T (61 + a + 5) (bcnt (kpF M 51 n i) c) = M (51 + a + 5) c := fun a ha hai c hcW hk => by rw [c3 _ (by omega) (by omega)]; exact a2 a (by omega) ((oth_hb hn5 hi (by omega)).mpr ⟨ha, hai⟩) c hcW hk
  have t2 : ∀ c, c < ln i → T (61 + i + 5) c = M (41 + i + 5) c := fun c hcl => by rw [c2 c hcl, kA _ (by omega)]
  have hp := kp_le hn5 hi (fun a ha => (hc.2.1 a ha).2.2.1) hy.1
  show G _ 79 [some (.ref 0), some (.int (nI i)), some (.int (nI (othF n i))), none] [] T _
  refine blk 6 [(.aload_n 0, 0, 0, 0), (.getfield 34, 6, 3, 0), (.aload_n 0, 0, 0, 0), (.getfield 52, 6, 6, 0)] [] (by decide +kernel) rfl (pc' := 87) (ls' := [some (.ref 0), some (.int (nI i)), some (.int (nI (othF n i))), none]) (st' := [.ref ((T 0 6).toNatClampNeg), .ref 4]) (M' := T) rfl ⟨trivial, rfl, trivial, rfl, trivial⟩ ?_
  rw [show (T 0 6).toNatClampNeg = 37 from hTT]
  refine blk 6 [(.iload_n 2, 0, 0, 0), (.iconst 1, 0, 0, (nI 1)), (.iload_n 1, 0, 0, 0), (.ishl, 0, 0, 0), (.aload_n 0, 0, 0, 0), (.getfield 41, 6, 4, 0), (.getfield 178, 5, 7, 0)] [] (by decide +kernel) rfl (pc' := 98) (ls' := [some (.ref 0), some (.int (nI i)), some (.int (nI (othF n i))), none]) (st' := [.ref 24, .int ((nI 1) <<< ((nI i) &&& 31)), .int (nI (othF n i)), .ref 37, .ref 4]) (M' := T) rfl ⟨trivial, trivial, trivial, trivial, trivial, rfl, rfl, trivial⟩ ?_
  have hq := hwi.2.2.1
  have hq1 := hwi.2.1
  have hdT : dataOK T 24 := by unfold dataOK; rw [kT 24 (by omega), kT 3 (by omega), kT 2 (by omega)]; exact ⟨hy.2.2.2.1, hc.2.2.2.1, hc.2.2.2.2.1, hc.2.2.2.2.2⟩
  have hrm := room_ok (p := bcnt (kpF M 51 n i) W) (q := ln i) (a := n - 1) (b := 1) hp hq (by omega) (by omega) (by omega)
  refine g_callV (s_unite37 T (P := nI (othF n i)) (Q := bit i) (v := 24) (p := bcnt (kpF M 51 n i) W) (q := ln i) (by decide) (by decide) hrm.1 hrm.2.1 hrm.2.2.1 hrm.2.2.2 (fun a ha hx => by rw [c3 _ (by have := ((oth_hb hn5 hi ha).mp hx).2; omega) (by omega)]; exact a1 a ha) (fun a ha hx => by rw [(hb_bit_ne (by omega) ha).mp hx]; exact c1) (turn_dis hn5 hi) (turn_okP hn5 hi hy.1 t1) (turn_okQ hn5 hi hwi t2) ⟨if i = 0 then 1 else 0, by split <;> omega, (oth_hb hn5 hi (by split <;> omega)).mpr (by split <;> omega)⟩ ⟨i, by omega, (hb_bit_ne (by omega) (by omega)).mpr rfl⟩ (fun R hR => uR_bnd hdT hR)) ok_X6_refine_X1_unite (by decide +kernel) rfl (c := 1) rfl (by decide) rfl (Nat.le_of_ble_eq_true rfl) (fun r F hF => ?_) rfl
  obtain ⟨x, m, hr3, m1, m2, m3, m5, m4⟩ := uni_ok (turn_okP hn5 hi hy.1 t1) (turn_okQ hn5 hi hwi t2) hF
  rw [hr3] at hF ⊢
  have kF : ∀ z, (z < 4 ∨ 15 < z) → (z < 61 ∨ 61 + 9 < z) → F z = M z := fun z h1 h2 => by rw [m4 z h1 (fun a ha _ => by omega)]; exact kT z h2
  have hTF : (F 0 6).toNatClampNeg = 37 := by rw [kF 0 (by omega) (by omega), hT]; decide +kernel
  have hLF : (F 0 5).toNatClampNeg = 35 := by rw [kF 0 (by omega) (by omega), hL]; decide +kernel
  have hnF : F 0 7 = nI n := by rw [kF 0 (by omega) (by omega)]; exact hn
  have htw : turnW M 51 61 n W ln i T F (some (.int x)) m := ⟨t1, t2, fun z hz => kT z (by omega), hF, fun a ha => (m5 a (by omega) (turn_all hn5 hi ha)).1, by omega, fun z hz => kF z (by omega) (by omega)⟩
  have hrw := turn_rows hn5 hi hc.2.1 hy.1 htw
  have htc : totC F 51 W n = totC M 51 W n := totC_congr (kF 2 (by omega) (by omega)) (kF 3 (by omega) (by omega)) (kF 24 (by omega) (by omega)) (fun a ha => kF _ (by omega) (by omega))
  show G _ 101 [some (.ref 0), some (.int (nI i)), some (.int (nI (othF n i))), none] [.int x] F _
  refine blk 6 [(.pop, 0, 0, 0), (.aload_n 0, 0, 0, 0), (.getfield 52, 6, 6, 0)] [] (by decide +kernel) rfl (pc' := 106) (ls' := [some (.ref 0), some (.int (nI i)), some (.int (nI (othF n i))), none]) (st' := [.ref ((F 0 6).toNatClampNeg)]) (M' := F) rfl ⟨rfl, trivial, rfl, trivial⟩ ?_
  rw [show (F 0 6).toNatClampNeg = 37 from hTF]
  refine blk 6 [(.aload_n 0, 0, 0, 0), (.getfield 67, 6, 7, 0), (.aload_n 0, 0, 0, 0), (.getfield 25, 6, 2, 0), (.aload_n 0, 0, 0, 0), (.getfield 41, 6, 4, 0), (.getfield 178, 5, 7, 0)] [] (by decide +kernel) rfl (pc' := 121) (ls' := [some (.ref 0), some (.int (nI i)), some (.int (nI (othF n i))), none]) (st' := [.ref 24, .ref 2, .int (F 0 7), .ref 37]) (M' := F) rfl ⟨trivial, rfl, trivial, rfl, trivial, rfl, rfl, trivial⟩ ?_
  rw [hnF]
  refine g_callV (s_sop37 F (n := n) (W := m) hn5 hrw.1 (fun a ha => (hrw.2 a ha).1) (fun a b ha hb => (hrw.2 a ha).2.1 b hb)) ok_X6_refine_X3_sumOverPairs (by decide +kernel) rfl (c := 3) rfl (by decide) rfl (Nat.le_of_ble_eq_true rfl) (fun r M' h => ?_) rfl
  obtain ⟨hr4, hM4⟩ := h
  rw [hr4, hM4]
  show G _ 124 [some (.ref 0), some (.int (nI i)), some (.int (nI (othF n i))), none] [.int (totC F 61 m n)] F _
  refine blk 6 [(.aload_n 0, 0, 0, 0)] [] (by decide +kernel) rfl (pc' := 125) (ls' := [some (.ref 0), some (.int (nI i)), some (.int (nI (othF n i))), none]) (st' := [.ref 0, .int (totC F 61 m n)]) (M' := F) rfl ⟨trivial, trivial⟩ ?_
  refine g_callV (s_total1_35 F (n := n) (W := W) hLF (by rw [kF 0 (by omega) (by omega)]; exact hl) hnF hn5 hy.1.1 (fun a ha => by rw [kF _ (by omega) (by omega)]; exact (hy.1.2 a ha).1) (fun a b ha hb => by rw [kF _ (by omega) (by omega)]; exact (hy.1.2 a ha).2.1 b hb)) ok_X6_refine_X6_total (by decide +kernel) rfl (c := 6) rfl (by decide) rfl (Nat.le_of_ble_eq_true rfl) (fun r M' h => ?_) rfl
  obtain ⟨hr5, hM5⟩ := h
  rw [hr5, hM5]
  show G _ 128 [some (.ref 0), some (.int (nI i)), some (.int (nI (othF n i))), none] [.int (totC F 51 W n), .int (totC F 61 m n)] F _
  rw [htc]
  refine g_icmp_gt (off := 5) (tgt := 133) (by decide +kernel) (by decide) (fun c1 => ?_) (fun c1 => ?_)
  · refine blk 6 [(.aload_n 0, 0, 0, 0), (.getfield 48, 6, 5, 0)] [] (by decide +kernel) rfl (pc' := 137) (ls' := [some (.ref 0), some (.int (nI i)), some (.int (nI (othF n i))), none]) (st' := [.ref ((F 0 5).toNatClampNeg)]) (M' := F) rfl ⟨trivial, rfl, trivial⟩ ?_
    rw [show (F 0 5).toNatClampNeg = 35 from hLF]
    refine blk 6 [(.astore_n 3, 0, 0, 0), (.aload_n 0, 0, 0, 0), (.aload_n 0, 0, 0, 0), (.getfield 52, 6, 6, 0)] [] (by decide +kernel) rfl (pc' := 143) (ls' := [some (.ref 0), some (.int (nI i)), some (.int (nI (othF n i))), some (.ref 35)]) (st' := [.ref ((F 0 6).toNatClampNeg), .ref 0]) (M' := F) rfl ⟨trivial, trivial, trivial, rfl, trivial⟩ ?_
    rw [show (F 0 6).toNatClampNeg = 37 from hTF]
    refine blk 6 [(.putfield 48, 6, 5, 0), (.aload_n 0, 0, 0, 0), (.aload_n 3, 0, 0, 0), (.putfield 52, 6, 6, 0), (.iconst 1, 0, 0, (nI 1))] [] (by decide +kernel) rfl (pc' := 152) (ls' := [some (.ref 0), some (.int (nI i)), some (.int (nI (othF n i))), some (.ref 35)]) (st' := [.int (nI 1)]) (M' := stm (stm F 0 5 (nI 37)) 0 6 (nI 35)) rfl ⟨⟨rfl, by decide⟩, trivial, trivial, ⟨rfl, by decide⟩, trivial, trivial⟩ ?_
    exact g_ireturn (by decide +kernel) rfl rfl ⟨true, congrArg (fun z => some (Value.int z)) (by decide +kernel), T, F, _, m, htw, ⟨fun _ => (by assumption), fun _ => rfl⟩, (fun a ha => ⟨by rw [stm_ne (by omega), stm_ne (by omega)], by rw [stm_ne (by omega), stm_ne (by omega)]⟩), (fun a ha => ⟨by rw [stm_ne (by omega), stm_ne (by omega)]; exact kF _ (by omega) (by omega), by rw [stm_ne (by omega), stm_ne (by omega)]; exact kF _ (by omega) (by omega)⟩), (fun f h1 h2 => by rw [stm_off h2, stm_off h1, kF 0 (by omega) (by omega)]), (fun z hz => by rw [stm_ne (by omega), stm_ne (by omega)]; exact kF z (by omega) (by omega)), Or.inr ⟨rfl, by rw [stm_off (by decide), stm_self], stm_self⟩⟩
  · refine blk 6 [(.iconst 0, 0, 0, (nI 0))] [] (by decide +kernel) rfl (pc' := 132) (ls' := [some (.ref 0), some (.int (nI i)), some (.int (nI (othF n i))), none]) (st' := [.int (nI 0)]) (M' := F) rfl ⟨trivial, trivial⟩ ?_
    exact g_ireturn (by decide +kernel) rfl rfl ⟨false, congrArg (fun z => some (Value.int z)) (by decide +kernel), T, F, _, m, htw, ⟨fun z => absurd z (by decide), fun z => absurd z (by assumption)⟩, (fun a ha => ⟨rfl, rfl⟩), (fun a ha => ⟨kF _ (by omega) (by omega), kF _ (by omega) (by omega)⟩), (fun f h1 h2 => by rw [kF 0 (by omega) (by omega)]), (fun z hz => kF z (by omega) (by omega)), Or.inl ⟨rfl, by rw [kF 0 (by omega) (by omega)]; exact hL, by rw [kF 0 (by omega) (by omega)]; exact hT⟩⟩
theorem s_refine1_35 (M : Mem) {n W i : Nat} {ln ws : Nat → Nat} (hn : M 0 7 = nI n) (hn2 : 2 ≤ n) (hn5 : n ≤ 5) (hi : i < n) (hl : ¬ M 0 11 = 0) (hL : M 0 5 = nI 35) (hT : M 0 6 = nI 37) (hc : clsOK M n ln) (hy : layC M 51 n W ln ws) : Spec mX6_refine [.ref 0, .int (nI i)] M (fun r N => ∃ b, r = some (.int (bI b)) ∧ rfP M 51 61 n W ln i b N) := by
  refine Spec.of (by decide) (by simp [Value.category]) (Nat.le_of_ble_eq_true rfl) ?_
  have hnod := hy.2.2.2.2.1
  refine blk 6 [(.aload_n 0, 0, 0, 0), (.getfield 74, 6, 11, 0)] [] (by decide +kernel) rfl (pc' := 4) (ls' := [some (.ref 0), some (.int (nI i)), none, none]) (st' := [.int (M 0 11)]) (M' := M) rfl ⟨trivial, rfl, trivial⟩ ?_
  refine g_if_eq (off := 19) (tgt := 23) (by decide +kernel) (by decide) (fun c1 => ?_) (fun c1 => ?_)
  · refine blk 6 [(.iconst 0, 0, 0, (nI 0))] [] (by decide +kernel) rfl (pc' := 24) (ls' := [some (.ref 0), some (.int (nI i)), none, none]) (st' := [.int (nI 0)]) (M' := M) rfl ⟨trivial, trivial⟩ ?_
    first
      | exact absurd (by assumption) hl
      | exact absurd (bI_eq (b := wrdB (M 0 7) (nI i)) (by assumption)) (by rw [hn, wrd_true hn5 hi]; decide)
      | (exfalso; omega)
  · refine blk 6 [(.aload_n 0, 0, 0, 0), (.iload_n 1, 0, 0, 0)] [] (by decide +kernel) rfl (pc' := 9) (ls' := [some (.ref 0), some (.int (nI i)), none, none]) (st' := [.int (nI i), .ref 0]) (M' := M) rfl ⟨trivial, trivial, trivial⟩ ?_
    refine g_callV (s_isWord _ (nI i)) ok_X6_refine_X6_isWord (by decide +kernel) rfl (c := 6) rfl (by decide) rfl (Nat.le_of_ble_eq_true rfl) (fun r M' h => ?_) rfl
    obtain ⟨hr, hM⟩ := h
    rw [hr, hM]
    show G _ 12 [some (.ref 0), some (.int (nI i)), none, none] [.int (bI (wrdB (M 0 7) (nI i)))] M _
    refine g_if_eq (off := 11) (tgt := 23) (by decide +kernel) (by decide) (fun c2 => ?_) (fun c2 => ?_)
    · refine blk 6 [(.iconst 0, 0, 0, (nI 0))] [] (by decide +kernel) rfl (pc' := 24) (ls' := [some (.ref 0), some (.int (nI i)), none, none]) (st' := [.int (nI 0)]) (M' := M) rfl ⟨trivial, trivial⟩ ?_
      first
        | exact absurd (by assumption) hl
        | exact absurd (bI_eq (b := wrdB (M 0 7) (nI i)) (by assumption)) (by rw [hn, wrd_true hn5 hi]; decide)
        | (exfalso; omega)
    · refine blk 6 [(.aload_n 0, 0, 0, 0), (.getfield 67, 6, 7, 0), (.iconst 2, 0, 0, (nI 2))] [] (by decide +kernel) rfl (pc' := 20) (ls' := [some (.ref 0), some (.int (nI i)), none, none]) (st' := [.int (nI 2), .int (M 0 7)]) (M' := M) rfl ⟨trivial, rfl, trivial, trivial⟩ ?_
      refine g_icmp_ge (off := 5) (tgt := 25) (by decide +kernel) (by decide) (fun c3 => ?_) (fun c3 => ?_)
      · have nc3 : 2 ≤ n := (nI_leI (by omega) (by omega)).mp (by simpa only [hn, hnod, nI_add, pk_mul, nI_s1, n0_lit] using c3)
        refine blk 6 [(.aload_n 0, 0, 0, 0), (.getfield 41, 6, 4, 0), (.getfield 185, 5, 3, 0), (.aload_n 0, 0, 0, 0), (.getfield 41, 6, 4, 0), (.getfield 188, 5, 10, 0), (.iconst 1, 0, 0, (nI 1)), (.isub, 0, 0, 0), (.iaload, 0, 0, 0), (.iconst 1, 0, 0, (nI 1)), (.iload_n 1, 0, 0, 0), (.ishl, 0, 0, 0), (.iconst (-1), 0, 0, (-1)), (.ixor, 0, 0, 0), (.iand, 0, 0, 0), (.istore_n 2, 0, 0, 0)] [2 * n - 2] (by decide +kernel) rfl (pc' := 49) (ls' := [some (.ref 0), some (.int (nI i)), some (.int ((M 20 (2 * n - 2)) &&& (((nI 1) <<< ((nI i) &&& 31)) ^^^ (-1)))), none]) (st' := []) (M' := M) rfl ⟨trivial, rfl, rfl, trivial, rfl, rfl, trivial, trivial, ⟨(by rw [hnod, nI_sub (by omega)]; rfl), (by show _ < 9; omega)⟩, trivial, trivial, trivial, trivial, trivial, trivial, trivial, trivial⟩ ?_
        refine G.sub (ls' := [some (.ref 0), some (.int (nI i)), some (.int (nI (othF n i))), none]) ?_ ⟨rfl, rfl, congrArg (fun z => some (Value.int z)) (by rw [hy.2.2.2.2.2]; exact oth_eq hn5 hi), trivial⟩
        exact l_rf_35 hn hn2 hn5 hi hl hL hT hc hy
      · have nc3 : n < 2 := by
          have z : ¬ nI 2 ≤ nI n := by simpa only [hn, hnod, nI_add, pk_mul, nI_s1, n0_lit] using c3
          rw [nI_leI (by omega) (by omega)] at z
          omega
        refine blk 6 [(.iconst 0, 0, 0, (nI 0))] [] (by decide +kernel) rfl (pc' := 24) (ls' := [some (.ref 0), some (.int (nI i)), none, none]) (st' := [.int (nI 0)]) (M' := M) rfl ⟨trivial, trivial⟩ ?_
        first
          | exact absurd (by assumption) hl
          | exact absurd (bI_eq (b := wrdB (M 0 7) (nI i)) (by assumption)) (by rw [hn, wrd_true hn5 hi]; decide)
          | (exfalso; omega)
theorem l_rf_37 {M : Mem} {n W i : Nat} {ln ws : Nat → Nat} (hn : M 0 7 = nI n) (hn2 : 2 ≤ n) (hn5 : n ≤ 5) (hi : i < n) (hl : ¬ M 0 11 = 0) (hL : M 0 5 = nI 37) (hT : M 0 6 = nI 35) (hc : clsOK M n ln) (hy : layC M 61 n W ln ws) : G mX6_refine 49 [some (.ref 0), some (.int (nI i)), some (.int (nI (othF n i))), none] [] M (fun r N => ∃ b, r = some (.int (bI b)) ∧ rfP M 61 51 n W ln i b N) := by
  have hTM : (M 0 6).toNatClampNeg = 35 := by rw [hT]; decide +kernel
  have hLM : (M 0 5).toNatClampNeg = 37 := by rw [hL]; decide +kernel
  refine blk 6 [(.aload_n 0, 0, 0, 0), (.getfield 52, 6, 6, 0)] [] (by decide +kernel) rfl (pc' := 53) (ls' := [some (.ref 0), some (.int (nI i)), some (.int (nI (othF n i))), none]) (st' := [.ref ((M 0 6).toNatClampNeg)]) (M' := M) rfl ⟨trivial, rfl, trivial⟩ ?_
  rw [show (M 0 6).toNatClampNeg = 35 from hTM]
  refine blk 6 [(.aload_n 0, 0, 0, 0), (.getfield 48, 6, 5, 0)] [] (by decide +kernel) rfl (pc' := 57) (ls' := [some (.ref 0), some (.int (nI i)), some (.int (nI (othF n i))), none]) (st' := [.ref ((M 0 5).toNatClampNeg), .ref 35]) (M' := M) rfl ⟨trivial, rfl, trivial⟩ ?_
  rw [show (M 0 5).toNatClampNeg = 37 from hLM]
  refine blk 6 [(.iload_n 2, 0, 0, 0)] [] (by decide +kernel) rfl (pc' := 58) (ls' := [some (.ref 0), some (.int (nI i)), some (.int (nI (othF n i))), none]) (st' := [.int (nI (othF n i)), .ref 37, .ref 35]) (M' := M) rfl ⟨trivial, trivial⟩ ?_
  refine g_callV (s_cpw35 M (nI (othF n i)) (Wd0 := W) hy.1.1 (hy.1.2 0 (by omega)).1) ok_X6_refine_X3_copyWithout (by decide +kernel) rfl (c := 3) rfl (by decide) rfl (Nat.le_of_ble_eq_true rfl) (fun r A hA => ?_) rfl
  obtain ⟨hr, a1, a2, a3⟩ := hA
  rw [hr]
  have hTA : (A 0 6).toNatClampNeg = 35 := by rw [a3 0 (fun a ha => by omega), hT]; decide +kernel
  have kA : ∀ z, (z < 51 ∨ 51 + 9 < z) → A z = M z := fun z hz => a3 z (fun a ha => by omega)
  show G _ 61 [some (.ref 0), some (.int (nI i)), some (.int (nI (othF n i))), none] [] A _
  refine blk 6 [(.aload_n 0, 0, 0, 0), (.getfield 52, 6, 6, 0)] [] (by decide +kernel) rfl (pc' := 65) (ls' := [some (.ref 0), some (.int (nI i)), some (.int (nI (othF n i))), none]) (st' := [.ref ((A 0 6).toNatClampNeg)]) (M' := A) rfl ⟨trivial, rfl, trivial⟩ ?_
  rw [show (A 0 6).toNatClampNeg = 35 from hTA]
  refine blk 6 [(.getfield 120, 3, 0, 0), (.iload_n 1, 0, 0, 0), (.aaload, 0, 0, 0), (.aload_n 0, 0, 0, 0), (.getfield 11, 6, 0, 0), (.iload_n 1, 0, 0, 0), (.aaload, 0, 0, 0)] [i, i] (by decide +kernel) rfl (pc' := 76) (ls' := [some (.ref 0), some (.int (nI i)), some (.int (nI (othF n i))), none]) (st' := [.ref (41 + i), .ref (51 + i)]) (M' := A) rfl ⟨rfl, trivial, ⟨rfl, (by show _ < 5; omega)⟩, trivial, rfl, trivial, ⟨rfl, (by show _ < 5; omega)⟩, trivial⟩ ?_
  have hwi := hc.2.1 i hi
  refine g_callV (s_copy A (t := 51 + i) (u := 41 + i) (w := ln i) (kd51 (by omega)) (kd41 (by omega)) (by rw [kA _ (by omega)]; exact hwi.1) (by rw [al56 (by omega)]; have := hwi.2.2.1; omega) (by rw [al46 (by omega)]; have := hwi.2.2.1; omega) (by omega) (by omega) (kd56 (by omega)) (kd46 (by omega)) (by omega)) ok_X6_refine_X2_copy (by decide +kernel) rfl (c := 2) (kd51 (by omega)) (by decide) rfl (Nat.le_of_ble_eq_true rfl) (fun r T hX => ?_) (by rfl)
  obtain ⟨hr2, c1, c2, c3⟩ := hX
  rw [hr2]
  have kT : ∀ z, (z < 51 ∨ 51 + 9 < z) → T z = M z := fun z hz => by rw [c3 z (by omega) (by omega)]; exact kA z hz
  have hTT : (T 0 6).toNatClampNeg = 35 := by rw [kT 0 (by omega), hT]; decide +kernel
  have t1 : ∀ a, a < n → a ≠ i → ∀ c, c < W → kpF M 61 n i c = true → T (51 + a + 5) (bcnt (kpF M 61 n i) c) = M (61 + a + 5) c := fun a ha hai c hcW hk => by rw [c3 _ (by omega) (by omega)]; exact a2 a (by omega) ((oth_hb hn5 hi (by omega)).mpr ⟨ha, hai⟩) c hcW hk
  have t2 : ∀ c, c < ln i → T (51 + i + 5) c = M (41 + i + 5) c := fun c hcl => by rw [c2 c hcl, kA _ (by omega)]
  have hp := kp_le hn5 hi (fun a ha => (hc.2.1 a ha).2.2.1) hy.1
  show G _ 79 [some (.ref 0), some (.int (nI i)), some (.int (nI (othF n i))), none] [] T _
  refine blk 6 [(.aload_n 0, 0, 0, 0), (.getfield 34, 6, 3, 0), (.aload_n 0, 0, 0, 0), (.getfield 52, 6, 6, 0)] [] (by decide +kernel) rfl (pc' := 87) (ls' := [some (.ref 0), some (.int (nI i)), some (.int (nI (othF n i))), none]) (st' := [.ref ((T 0 6).toNatClampNeg), .ref 4]) (M' := T) rfl ⟨trivial, rfl, trivial, rfl, trivial⟩ ?_
  rw [show (T 0 6).toNatClampNeg = 35 from hTT]
  refine blk 6 [(.iload_n 2, 0, 0, 0), (.iconst 1, 0, 0, (nI 1)), (.iload_n 1, 0, 0, 0), (.ishl, 0, 0, 0), (.aload_n 0, 0, 0, 0), (.getfield 41, 6, 4, 0), (.getfield 178, 5, 7, 0)] [] (by decide +kernel) rfl (pc' := 98) (ls' := [some (.ref 0), some (.int (nI i)), some (.int (nI (othF n i))), none]) (st' := [.ref 24, .int ((nI 1) <<< ((nI i) &&& 31)), .int (nI (othF n i)), .ref 35, .ref 4]) (M' := T) rfl ⟨trivial, trivial, trivial, trivial, trivial, rfl, rfl, trivial⟩ ?_
  have hq := hwi.2.2.1
  have hq1 := hwi.2.1
  have hdT : dataOK T 24 := by unfold dataOK; rw [kT 24 (by omega), kT 3 (by omega), kT 2 (by omega)]; exact ⟨hy.2.2.2.1, hc.2.2.2.1, hc.2.2.2.2.1, hc.2.2.2.2.2⟩
  have hrm := room_ok (p := bcnt (kpF M 61 n i) W) (q := ln i) (a := n - 1) (b := 1) hp hq (by omega) (by omega) (by omega)
  refine g_callV (s_unite35 T (P := nI (othF n i)) (Q := bit i) (v := 24) (p := bcnt (kpF M 61 n i) W) (q := ln i) (by decide) (by decide) hrm.1 hrm.2.1 hrm.2.2.1 hrm.2.2.2 (fun a ha hx => by rw [c3 _ (by have := ((oth_hb hn5 hi ha).mp hx).2; omega) (by omega)]; exact a1 a ha) (fun a ha hx => by rw [(hb_bit_ne (by omega) ha).mp hx]; exact c1) (turn_dis hn5 hi) (turn_okP hn5 hi hy.1 t1) (turn_okQ hn5 hi hwi t2) ⟨if i = 0 then 1 else 0, by split <;> omega, (oth_hb hn5 hi (by split <;> omega)).mpr (by split <;> omega)⟩ ⟨i, by omega, (hb_bit_ne (by omega) (by omega)).mpr rfl⟩ (fun R hR => uR_bnd hdT hR)) ok_X6_refine_X1_unite (by decide +kernel) rfl (c := 1) rfl (by decide) rfl (Nat.le_of_ble_eq_true rfl) (fun r F hF => ?_) rfl
  obtain ⟨x, m, hr3, m1, m2, m3, m5, m4⟩ := uni_ok (turn_okP hn5 hi hy.1 t1) (turn_okQ hn5 hi hwi t2) hF
  rw [hr3] at hF ⊢
  have kF : ∀ z, (z < 4 ∨ 15 < z) → (z < 51 ∨ 51 + 9 < z) → F z = M z := fun z h1 h2 => by rw [m4 z h1 (fun a ha _ => by omega)]; exact kT z h2
  have hTF : (F 0 6).toNatClampNeg = 35 := by rw [kF 0 (by omega) (by omega), hT]; decide +kernel
  have hLF : (F 0 5).toNatClampNeg = 37 := by rw [kF 0 (by omega) (by omega), hL]; decide +kernel
  have hnF : F 0 7 = nI n := by rw [kF 0 (by omega) (by omega)]; exact hn
  have htw : turnW M 61 51 n W ln i T F (some (.int x)) m := ⟨t1, t2, fun z hz => kT z (by omega), hF, fun a ha => (m5 a (by omega) (turn_all hn5 hi ha)).1, by omega, fun z hz => kF z (by omega) (by omega)⟩
  have hrw := turn_rows hn5 hi hc.2.1 hy.1 htw
  have htc : totC F 61 W n = totC M 61 W n := totC_congr (kF 2 (by omega) (by omega)) (kF 3 (by omega) (by omega)) (kF 24 (by omega) (by omega)) (fun a ha => kF _ (by omega) (by omega))
  show G _ 101 [some (.ref 0), some (.int (nI i)), some (.int (nI (othF n i))), none] [.int x] F _
  refine blk 6 [(.pop, 0, 0, 0), (.aload_n 0, 0, 0, 0), (.getfield 52, 6, 6, 0)] [] (by decide +kernel) rfl (pc' := 106) (ls' := [some (.ref 0), some (.int (nI i)), some (.int (nI (othF n i))), none]) (st' := [.ref ((F 0 6).toNatClampNeg)]) (M' := F) rfl ⟨rfl, trivial, rfl, trivial⟩ ?_
  rw [show (F 0 6).toNatClampNeg = 35 from hTF]
  refine blk 6 [(.aload_n 0, 0, 0, 0), (.getfield 67, 6, 7, 0), (.aload_n 0, 0, 0, 0), (.getfield 25, 6, 2, 0), (.aload_n 0, 0, 0, 0), (.getfield 41, 6, 4, 0), (.getfield 178, 5, 7, 0)] [] (by decide +kernel) rfl (pc' := 121) (ls' := [some (.ref 0), some (.int (nI i)), some (.int (nI (othF n i))), none]) (st' := [.ref 24, .ref 2, .int (F 0 7), .ref 35]) (M' := F) rfl ⟨trivial, rfl, trivial, rfl, trivial, rfl, rfl, trivial⟩ ?_
  rw [hnF]
  refine g_callV (s_sop35 F (n := n) (W := m) hn5 hrw.1 (fun a ha => (hrw.2 a ha).1) (fun a b ha hb => (hrw.2 a ha).2.1 b hb)) ok_X6_refine_X3_sumOverPairs (by decide +kernel) rfl (c := 3) rfl (by decide) rfl (Nat.le_of_ble_eq_true rfl) (fun r M' h => ?_) rfl
  obtain ⟨hr4, hM4⟩ := h
  rw [hr4, hM4]
  show G _ 124 [some (.ref 0), some (.int (nI i)), some (.int (nI (othF n i))), none] [.int (totC F 51 m n)] F _
  refine blk 6 [(.aload_n 0, 0, 0, 0)] [] (by decide +kernel) rfl (pc' := 125) (ls' := [some (.ref 0), some (.int (nI i)), some (.int (nI (othF n i))), none]) (st' := [.ref 0, .int (totC F 51 m n)]) (M' := F) rfl ⟨trivial, trivial⟩ ?_
  refine g_callV (s_total1_37 F (n := n) (W := W) hLF (by rw [kF 0 (by omega) (by omega)]; exact hl) hnF hn5 hy.1.1 (fun a ha => by rw [kF _ (by omega) (by omega)]; exact (hy.1.2 a ha).1) (fun a b ha hb => by rw [kF _ (by omega) (by omega)]; exact (hy.1.2 a ha).2.1 b hb)) ok_X6_refine_X6_total (by decide +kernel) rfl (c := 6) rfl (by decide) rfl (Nat.le_of_ble_eq_true rfl) (fun r M' h => ?_) rfl
  obtain ⟨hr5, hM5⟩ := h
  rw [hr5, hM5]
  show G _ 128 [some (.ref 0), some (.int (nI i)), some (.int (nI (othF n i))), none] [.int (totC F 61 W n), .int (totC F 51 m n)] F _
  rw [htc]
  refine g_icmp_gt (off := 5) (tgt := 133) (by decide +kernel) (by decide) (fun c1 => ?_) (fun c1 => ?_)
  · refine blk 6 [(.aload_n 0, 0, 0, 0), (.getfield 48, 6, 5, 0)] [] (by decide +kernel) rfl (pc' := 137) (ls' := [some (.ref 0), some (.int (nI i)), some (.int (nI (othF n i))), none]) (st' := [.ref ((F 0 5).toNatClampNeg)]) (M' := F) rfl ⟨trivial, rfl, trivial⟩ ?_
    rw [show (F 0 5).toNatClampNeg = 37 from hLF]
    refine blk 6 [(.astore_n 3, 0, 0, 0), (.aload_n 0, 0, 0, 0), (.aload_n 0, 0, 0, 0), (.getfield 52, 6, 6, 0)] [] (by decide +kernel) rfl (pc' := 143) (ls' := [some (.ref 0), some (.int (nI i)), some (.int (nI (othF n i))), some (.ref 37)]) (st' := [.ref ((F 0 6).toNatClampNeg), .ref 0]) (M' := F) rfl ⟨trivial, trivial, trivial, rfl, trivial⟩ ?_
    rw [show (F 0 6).toNatClampNeg = 35 from hTF]
    refine blk 6 [(.putfield 48, 6, 5, 0), (.aload_n 0, 0, 0, 0), (.aload_n 3, 0, 0, 0), (.putfield 52, 6, 6, 0), (.iconst 1, 0, 0, (nI 1))] [] (by decide +kernel) rfl (pc' := 152) (ls' := [some (.ref 0), some (.int (nI i)), some (.int (nI (othF n i))), some (.ref 37)]) (st' := [.int (nI 1)]) (M' := stm (stm F 0 5 (nI 35)) 0 6 (nI 37)) rfl ⟨⟨rfl, by decide⟩, trivial, trivial, ⟨rfl, by decide⟩, trivial, trivial⟩ ?_
    exact g_ireturn (by decide +kernel) rfl rfl ⟨true, congrArg (fun z => some (Value.int z)) (by decide +kernel), T, F, _, m, htw, ⟨fun _ => (by assumption), fun _ => rfl⟩, (fun a ha => ⟨by rw [stm_ne (by omega), stm_ne (by omega)], by rw [stm_ne (by omega), stm_ne (by omega)]⟩), (fun a ha => ⟨by rw [stm_ne (by omega), stm_ne (by omega)]; exact kF _ (by omega) (by omega), by rw [stm_ne (by omega), stm_ne (by omega)]; exact kF _ (by omega) (by omega)⟩), (fun f h1 h2 => by rw [stm_off h2, stm_off h1, kF 0 (by omega) (by omega)]), (fun z hz => by rw [stm_ne (by omega), stm_ne (by omega)]; exact kF z (by omega) (by omega)), Or.inl ⟨rfl, by rw [stm_off (by decide), stm_self], stm_self⟩⟩
  · refine blk 6 [(.iconst 0, 0, 0, (nI 0))] [] (by decide +kernel) rfl (pc' := 132) (ls' := [some (.ref 0), some (.int (nI i)), some (.int (nI (othF n i))), none]) (st' := [.int (nI 0)]) (M' := F) rfl ⟨trivial, trivial⟩ ?_
    exact g_ireturn (by decide +kernel) rfl rfl ⟨false, congrArg (fun z => some (Value.int z)) (by decide +kernel), T, F, _, m, htw, ⟨fun z => absurd z (by decide), fun z => absurd z (by assumption)⟩, (fun a ha => ⟨rfl, rfl⟩), (fun a ha => ⟨kF _ (by omega) (by omega), kF _ (by omega) (by omega)⟩), (fun f h1 h2 => by rw [kF 0 (by omega) (by omega)]), (fun z hz => kF z (by omega) (by omega)), Or.inr ⟨rfl, by rw [kF 0 (by omega) (by omega)]; exact hL, by rw [kF 0 (by omega) (by omega)]; exact hT⟩⟩
theorem s_refine1_37 (M : Mem) {n W i : Nat} {ln ws : Nat → Nat} (hn : M 0 7 = nI n) (hn2 : 2 ≤ n) (hn5 : n ≤ 5) (hi : i < n) (hl : ¬ M 0 11 = 0) (hL : M 0 5 = nI 37) (hT : M 0 6 = nI 35) (hc : clsOK M n ln) (hy : layC M 61 n W ln ws) : Spec mX6_refine [.ref 0, .int (nI i)] M (fun r N => ∃ b, r = some (.int (bI b)) ∧ rfP M 61 51 n W ln i b N) := by
  refine Spec.of (by decide) (by simp [Value.category]) (Nat.le_of_ble_eq_true rfl) ?_
  have hnod := hy.2.2.2.2.1
  refine blk 6 [(.aload_n 0, 0, 0, 0), (.getfield 74, 6, 11, 0)] [] (by decide +kernel) rfl (pc' := 4) (ls' := [some (.ref 0), some (.int (nI i)), none, none]) (st' := [.int (M 0 11)]) (M' := M) rfl ⟨trivial, rfl, trivial⟩ ?_
  refine g_if_eq (off := 19) (tgt := 23) (by decide +kernel) (by decide) (fun c1 => ?_) (fun c1 => ?_)
  · refine blk 6 [(.iconst 0, 0, 0, (nI 0))] [] (by decide +kernel) rfl (pc' := 24) (ls' := [some (.ref 0), some (.int (nI i)), none, none]) (st' := [.int (nI 0)]) (M' := M) rfl ⟨trivial, trivial⟩ ?_
    first
      | exact absurd (by assumption) hl
      | exact absurd (bI_eq (b := wrdB (M 0 7) (nI i)) (by assumption)) (by rw [hn, wrd_true hn5 hi]; decide)
      | (exfalso; omega)
  · refine blk 6 [(.aload_n 0, 0, 0, 0), (.iload_n 1, 0, 0, 0)] [] (by decide +kernel) rfl (pc' := 9) (ls' := [some (.ref 0), some (.int (nI i)), none, none]) (st' := [.int (nI i), .ref 0]) (M' := M) rfl ⟨trivial, trivial, trivial⟩ ?_
    refine g_callV (s_isWord _ (nI i)) ok_X6_refine_X6_isWord (by decide +kernel) rfl (c := 6) rfl (by decide) rfl (Nat.le_of_ble_eq_true rfl) (fun r M' h => ?_) rfl
    obtain ⟨hr, hM⟩ := h
    rw [hr, hM]
    show G _ 12 [some (.ref 0), some (.int (nI i)), none, none] [.int (bI (wrdB (M 0 7) (nI i)))] M _
    refine g_if_eq (off := 11) (tgt := 23) (by decide +kernel) (by decide) (fun c2 => ?_) (fun c2 => ?_)
    · refine blk 6 [(.iconst 0, 0, 0, (nI 0))] [] (by decide +kernel) rfl (pc' := 24) (ls' := [some (.ref 0), some (.int (nI i)), none, none]) (st' := [.int (nI 0)]) (M' := M) rfl ⟨trivial, trivial⟩ ?_
      first
        | exact absurd (by assumption) hl
        | exact absurd (bI_eq (b := wrdB (M 0 7) (nI i)) (by assumption)) (by rw [hn, wrd_true hn5 hi]; decide)
        | (exfalso; omega)
    · refine blk 6 [(.aload_n 0, 0, 0, 0), (.getfield 67, 6, 7, 0), (.iconst 2, 0, 0, (nI 2))] [] (by decide +kernel) rfl (pc' := 20) (ls' := [some (.ref 0), some (.int (nI i)), none, none]) (st' := [.int (nI 2), .int (M 0 7)]) (M' := M) rfl ⟨trivial, rfl, trivial, trivial⟩ ?_
      refine g_icmp_ge (off := 5) (tgt := 25) (by decide +kernel) (by decide) (fun c3 => ?_) (fun c3 => ?_)
      · have nc3 : 2 ≤ n := (nI_leI (by omega) (by omega)).mp (by simpa only [hn, hnod, nI_add, pk_mul, nI_s1, n0_lit] using c3)
        refine blk 6 [(.aload_n 0, 0, 0, 0), (.getfield 41, 6, 4, 0), (.getfield 185, 5, 3, 0), (.aload_n 0, 0, 0, 0), (.getfield 41, 6, 4, 0), (.getfield 188, 5, 10, 0), (.iconst 1, 0, 0, (nI 1)), (.isub, 0, 0, 0), (.iaload, 0, 0, 0), (.iconst 1, 0, 0, (nI 1)), (.iload_n 1, 0, 0, 0), (.ishl, 0, 0, 0), (.iconst (-1), 0, 0, (-1)), (.ixor, 0, 0, 0), (.iand, 0, 0, 0), (.istore_n 2, 0, 0, 0)] [2 * n - 2] (by decide +kernel) rfl (pc' := 49) (ls' := [some (.ref 0), some (.int (nI i)), some (.int ((M 20 (2 * n - 2)) &&& (((nI 1) <<< ((nI i) &&& 31)) ^^^ (-1)))), none]) (st' := []) (M' := M) rfl ⟨trivial, rfl, rfl, trivial, rfl, rfl, trivial, trivial, ⟨(by rw [hnod, nI_sub (by omega)]; rfl), (by show _ < 9; omega)⟩, trivial, trivial, trivial, trivial, trivial, trivial, trivial, trivial⟩ ?_
        refine G.sub (ls' := [some (.ref 0), some (.int (nI i)), some (.int (nI (othF n i))), none]) ?_ ⟨rfl, rfl, congrArg (fun z => some (Value.int z)) (by rw [hy.2.2.2.2.2]; exact oth_eq hn5 hi), trivial⟩
        exact l_rf_37 hn hn2 hn5 hi hl hL hT hc hy
      · have nc3 : n < 2 := by
          have z : ¬ nI 2 ≤ nI n := by simpa only [hn, hnod, nI_add, pk_mul, nI_s1, n0_lit] using c3
          rw [nI_leI (by omega) (by omega)] at z
          omega
        refine blk 6 [(.iconst 0, 0, 0, (nI 0))] [] (by decide +kernel) rfl (pc' := 24) (ls' := [some (.ref 0), some (.int (nI i)), none, none]) (st' := [.int (nI 0)]) (M' := M) rfl ⟨trivial, trivial⟩ ?_
        first
          | exact absurd (by assumption) hl
          | exact absurd (bI_eq (b := wrdB (M 0 7) (nI i)) (by assumption)) (by rw [hn, wrd_true hn5 hi]; decide)
          | (exfalso; omega)
theorem s_refine0 (M : Mem) {i : Int32} (hno : M 0 11 = 0 ∨ wrdB (M 0 7) i = false ∨ ¬ nI 2 ≤ M 0 7) : Spec mX6_refine [.ref 0, .int i] M (Ret 0 M) := by
  refine Spec.of (by decide) (by simp [Value.category]) (Nat.le_of_ble_eq_true rfl) ?_
  refine blk 6 [(.aload_n 0, 0, 0, 0), (.getfield 74, 6, 11, 0)] [] (by decide +kernel) rfl (pc' := 4) (ls' := [some (.ref 0), some (.int i), none, none]) (st' := [.int (M 0 11)]) (M' := M) rfl ⟨trivial, rfl, trivial⟩ ?_
  refine g_if_eq (off := 19) (tgt := 23) (by decide +kernel) (by decide) (fun c1 => ?_) (fun c1 => ?_)
  · refine blk 6 [(.iconst 0, 0, 0, (nI 0))] [] (by decide +kernel) rfl (pc' := 24) (ls' := [some (.ref 0), some (.int i), none, none]) (st' := [.int (nI 0)]) (M' := M) rfl ⟨trivial, trivial⟩ ?_
    exact g_ireturn (by decide +kernel) rfl rfl ⟨congrArg (fun z => some (Value.int z)) (by decide +kernel), rfl⟩
  · refine blk 6 [(.aload_n 0, 0, 0, 0), (.iload_n 1, 0, 0, 0)] [] (by decide +kernel) rfl (pc' := 9) (ls' := [some (.ref 0), some (.int i), none, none]) (st' := [.int i, .ref 0]) (M' := M) rfl ⟨trivial, trivial, trivial⟩ ?_
    refine g_callV (s_isWord _ i) ok_X6_refine_X6_isWord (by decide +kernel) rfl (c := 6) rfl (by decide) rfl (Nat.le_of_ble_eq_true rfl) (fun r M' h => ?_) rfl
    obtain ⟨hr, hM⟩ := h
    rw [hr, hM]
    show G _ 12 [some (.ref 0), some (.int i), none, none] [.int (bI (wrdB (M 0 7) i))] M _
    refine g_if_eq (off := 11) (tgt := 23) (by decide +kernel) (by decide) (fun c2 => ?_) (fun c2 => ?_)
    · refine blk 6 [(.iconst 0, 0, 0, (nI 0))] [] (by decide +kernel) rfl (pc' := 24) (ls' := [some (.ref 0), some (.int i), none, none]) (st' := [.int (nI 0)]) (M' := M) rfl ⟨trivial, trivial⟩ ?_
      exact g_ireturn (by decide +kernel) rfl rfl ⟨congrArg (fun z => some (Value.int z)) (by decide +kernel), rfl⟩
    · refine blk 6 [(.aload_n 0, 0, 0, 0), (.getfield 67, 6, 7, 0), (.iconst 2, 0, 0, (nI 2))] [] (by decide +kernel) rfl (pc' := 20) (ls' := [some (.ref 0), some (.int i), none, none]) (st' := [.int (nI 2), .int (M 0 7)]) (M' := M) rfl ⟨trivial, rfl, trivial, trivial⟩ ?_
      refine g_icmp_ge (off := 5) (tgt := 25) (by decide +kernel) (by decide) (fun c3 => ?_) (fun c3 => ?_)
      · rcases hno with h | h | h
        · exact absurd h (by assumption)
        · exact absurd (by rw [h]; rfl) (show ¬ bI (wrdB (M 0 7) i) = 0 by assumption)
        · exact absurd (by assumption) h
      · refine blk 6 [(.iconst 0, 0, 0, (nI 0))] [] (by decide +kernel) rfl (pc' := 24) (ls' := [some (.ref 0), some (.int i), none, none]) (st' := [.int (nI 0)]) (M' := M) rfl ⟨trivial, trivial⟩ ?_
        exact g_ireturn (by decide +kernel) rfl rfl ⟨congrArg (fun z => some (Value.int z)) (by decide +kernel), rfl⟩
