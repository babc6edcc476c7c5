/-! the class's polish -/
/-- the turns of a polish: whether each was better, the memory and the width after it -/
def Turns (n : Nat) (ln : Nat → Nat) (res : Nat) (C' : Mem) (B' W' : Nat) : List (Bool × Mem × Nat) → Nat → Nat → Nat → Mem → Nat → Nat → Prop
  | [], _, f, k, C, B, W => f = n ∧ k = res ∧ C = C' ∧ B = B' ∧ W = W'
  | (b, N, V) :: l, row, f, k, C, B, W => f < n ∧ rfP C B (112 - B) n W ln row b N ∧ rowsOK N (if b then 112 - B else B) n V ln ∧ Turns n ln res C' B' W' l (if row + 1 < n then row + 1 else 0) (if b then 0 else f + 1) (if b then k + 1 else k) N (if b then 112 - B else B) V
theorem totI_congr {C F : Mem} {B W n : Nat} {ws : Nat → Nat} (h2 : F 2 = C 2) (h3 : F 3 = C 3) (hr : ∀ a, a < n → F (B + a + 5) = C (B + a + 5)) : totI F B W n ws = totI C B W n ws := by
  unfold totI totZ
  refine isum_congr (fun i hi => isum_congr (fun j hj => ?_))
  show ((ws i * ws (i + 1 + j) : Nat) : Int) * (sbF (F 3) (F 2 1) (F 2 2) (F (B + i + 5)) (F (B + (i + 1 + j) + 5)) W).1.toInt = ((ws i * ws (i + 1 + j) : Nat) : Int) * (sbF (C 3) (C 2 1) (C 2 2) (C (B + i + 5)) (C (B + (i + 1 + j) + 5)) W).1.toInt
  rw [h2, h3, hr i hi, hr (i + 1 + j) (by omega)]
theorem rowsOK_congr {C F : Mem} {B n W : Nat} {ln : Nat → Nat} (h : ∀ a, a < n → F (B + a) = C (B + a) ∧ F (B + a + 5) = C (B + a + 5)) (hr : rowsOK C B n W ln) : rowsOK F B n W ln := by
  refine ⟨hr.1, fun a ha => ?_⟩
  rw [(h a ha).1, (h a ha).2]
  exact hr.2 a ha
/-- what holds after a turn -/
theorem rf_next {C N : Mem} {B n W i : Nat} {ln ws : Nat → Nat} {b : Bool} (hn : n ≤ 5) (hi : i < n) (hB : B = 51 ∨ B = 61) (hc : clsOK C n ln) (hy : layC C B n W ln ws) (hP : rfP C B (112 - B) n W ln i b N) : ∃ V, layC N (if b then 112 - B else B) n V ln ws ∧ clsOK N n ln ∧ (b = true → totI C B W n ws + (ws i : Int) ≤ totI N (if b then 112 - B else B) V n ws) ∧ (b = false → totI N (if b then 112 - B else B) V n ws = totI C B W n ws) := by
  obtain ⟨T, F, r0, m, ht, pb, pr, po, pf, pz, ps'⟩ := hP
  have hrw := turn_rows hn hi hc.2.1 hy.1 ht
  have t7 := ht.2.2.2.2.2.2
  have hcN : clsOK N n ln := by
    obtain ⟨c1, c2, c3, c4, c5, c6⟩ := hc
    unfold clsOK
    rw [pf 7 (by decide) (by decide), pz 97 (by omega), pz 3 (by omega), pz 2 (by omega)]
    refine ⟨c1, fun j hj => ?_, c3, c4, c5, c6⟩
    unfold wordOK
    rw [pz (41 + j) (by omega), pz (41 + j + 5) (by omega)]
    exact c2 j hj
  have rest : ∀ V B', rowsOK N B' n V ln → layC N B' n V ln ws := fun V B' hr => by
    obtain ⟨_, y2, y3, y4, y5, y6⟩ := hy
    unfold layC
    rw [pz 24 (by omega), pz 16 (by omega), pz 20 (by omega)]
    exact ⟨hr, y2, y3, y4, y5, y6⟩
  have i0 := totC_int hn (fun a ha => (hc.2.1 a ha).2.2.1) hy.1 hc.2.2.2.1 hc.2.2.2.2.1 hc.2.2.2.2.2 hy.2.1 hy.2.2.1
  cases b with
  | true =>
    have i1 := totC_int (C := F) hn (fun a ha => (hc.2.1 a ha).2.2.1) hrw (by rw [t7 3 (by omega)]; exact hc.2.2.2.1) (by rw [t7 2 (by omega)]; exact hc.2.2.2.2.1) (by rw [t7 2 (by omega)]; exact hc.2.2.2.2.2) hy.2.1 (by rw [t7 24 (by omega)]; exact hy.2.2.1)
    have hlt := Int32.lt_iff_toInt_lt.mp (pb.mp rfl)
    rw [i0.1, i1.1] at hlt
    have e : totI N (112 - B) m n ws = totI F (112 - B) m n ws := totI_congr (by rw [pz 2 (by omega), t7 2 (by omega)]) (by rw [pz 3 (by omega), t7 3 (by omega)]) (fun a ha => (pr a ha).2)
    refine ⟨m, rest m _ (rowsOK_congr pr hrw), hcN, fun _ => ?_, fun z => absurd z (by decide)⟩
    rw [if_pos rfl, e]
    exact turn_rise hn hi hc.2.1 hy.1 ht hlt
  | false =>
    refine ⟨W, rest W _ (rowsOK_congr (fun a ha => po a (by omega)) hy.1), hcN, fun z => absurd z (by decide), fun _ => ?_⟩
    exact totI_congr (pz 2 (by omega)) (pz 3 (by omega)) (fun a ha => (po a (by omega)).2)
theorem s_refineB (M : Mem) {B n W i : Nat} {ln ws : Nat → Nat} (hn : M 0 7 = nI n) (hn2 : 2 ≤ n) (hn5 : n ≤ 5) (hi : i < n) (hl : ¬ M 0 11 = 0) (hs : shAt M B) (hc : clsOK M n ln) (hy : layC M B n W ln ws) : Spec mX6_refine [.ref 0, .int (nI i)] M (fun r N => ∃ b, r = some (.int (bI b)) ∧ rfP M B (112 - B) n W ln i b N) := by
  rcases hs with ⟨e, h5, h6⟩ | ⟨e, h5, h6⟩
  · subst e; exact s_refine1_35 M hn hn2 hn5 hi hl h5 h6 hc hy
  · subst e; exact s_refine1_37 M hn hn2 hn5 hi hl h5 h6 hc hy
theorem big_no {t : Nat} (h : t < 1000000) : ¬ (1000000 : Int32) ≤ nI t := by
  rw [show (1000000 : Int32) = nI 1000000 by decide]
  intro z
  have := (nI_leI (by omega) (by omega)).mp z
  omega
def clFr (M N : Mem) : Prop := (∀ f, f ≠ 5 → f ≠ 6 → N 0 f = M 0 f) ∧ ∀ z, (0 < z ∧ z < 4) ∨ (15 < z ∧ z < 51) ∨ 70 < z → N z = M z
theorem nk_step {n k f t : Nat} (h : t ≤ n * k + f) (hf : f < n) : t + 1 ≤ n * (k + 1) ∧ t + 1 ≤ n * k + (f + 1) := by
  rw [Nat.mul_add]; omega
theorem nk_bd {n k f t : Nat} (hn : n ≤ 5) (hk : k ≤ 199200) (hf : f ≤ n) (h : t ≤ n * k + f) : t < 1000000 := by
  have : n * k ≤ 5 * 199200 := Nat.mul_le_mul hn hk
  omega
theorem l_pol {M : Mem} {n w0 : Nat} {T0 : Int} {ln ws : Nat → Nat} {Post : Option Value → Mem → Prop} (hn : M 0 7 = nI n) (hn2 : 2 ≤ n) (hn5 : n ≤ 5) (hl : ¬ M 0 11 = 0) (hw0 : 1 ≤ w0) (hw1 : prsN ((List.range n).map ws) ≤ 166 * w0) (hmin : ∀ i, i < n → w0 ≤ ws i) (hT0 : -960 * (prsN ((List.range n).map ws) : Int) ≤ T0) : ∀ d row f k t N B W, d = 1000000 - t → row < n → f ≤ n → t ≤ n * k + f → clsOK N n ln → layC N B n W ln ws → shAt N B → clFr M N → (k : Int) * w0 ≤ totI N B W n ws - T0 → (∀ l res N' B' W', Turns n ln res N' B' W' l row f k N B W → (layC N' B' n W' ln ws ∧ clsOK N' n ln ∧ shAt N' B' ∧ clFr M N') → Post (some (.int (nI res))) N') → G mX6_polish 18 [some (.ref 0), some (.int (nI k)), some (.int (nI f)), some (.int (nI row)), some (.int (nI t))] [] N Post := by
  intro d
  induction d using Nat.strongRecOn with
  | ind d ih =>
    intro row f k t N B W hd hrow hf htk hc hy hs hfr hpot hp
    have hnN : N 0 7 = nI n := by rw [hfr.1 7 (by decide) (by decide)]; exact hn
    have hnA := hnN
    have hlN : ¬ N 0 11 = 0 := by rw [hfr.1 11 (by decide) (by decide)]; exact hl
    have hti := totC_int hn5 (fun a ha => (hc.2.1 a ha).2.2.1) hy.1 hc.2.2.2.1 hc.2.2.2.2.1 hc.2.2.2.2.2 hy.2.1 hy.2.2.1
    have hk := rises hw0 hpot hti.2.2 hT0 hw1
    have ht0 : t < 1000000 := nk_bd hn5 hk hf htk
    refine blk 6 [(.iload 4, 0, 0, 0), (.ldc 202, 0, 0, 1000000)] [] (by decide +kernel) rfl (pc' := 22) (ls' := [some (.ref 0), some (.int (nI k)), some (.int (nI f)), some (.int (nI row)), some (.int (nI t))]) (st' := [.int 1000000, .int (nI t)]) (M' := N) rfl ⟨trivial, trivial, trivial⟩ ?_
    refine g_icmp_ge (off := 54) (tgt := 76) (by decide +kernel) (by decide) (fun c1 => ?_) (fun c1 => ?_)
    · refine blk 6 [(.iload_n 1, 0, 0, 0)] [] (by decide +kernel) rfl (pc' := 77) (ls' := [some (.ref 0), some (.int (nI k)), some (.int (nI f)), some (.int (nI row)), some (.int (nI t))]) (st' := [.int (nI k)]) (M' := N) rfl ⟨trivial, trivial⟩ ?_
      first
        | exact absurd (by assumption) (big_no ht0)
        | (have e : f = n := by omega
           exact g_ireturn (by decide +kernel) rfl rfl (hp [] k N B W ⟨e, rfl, rfl, rfl, rfl⟩ ⟨hy, hc, hs, hfr⟩))
    · refine blk 6 [(.iload_n 2, 0, 0, 0), (.aload_n 0, 0, 0, 0), (.getfield 67, 6, 7, 0)] [] (by decide +kernel) rfl (pc' := 30) (ls' := [some (.ref 0), some (.int (nI k)), some (.int (nI f)), some (.int (nI row)), some (.int (nI t))]) (st' := [.int (N 0 7), .int (nI f)]) (M' := N) rfl ⟨trivial, trivial, rfl, trivial⟩ ?_
      refine g_icmp_ge (off := 46) (tgt := 76) (by decide +kernel) (by decide) (fun c2 => ?_) (fun c2 => ?_)
      · have nc2 : n ≤ f := (nI_leI (by omega) (by omega)).mp (by simpa only [hnN, hnA, nI_add, pk_mul, nI_s1, n0_lit] using c2)
        refine blk 6 [(.iload_n 1, 0, 0, 0)] [] (by decide +kernel) rfl (pc' := 77) (ls' := [some (.ref 0), some (.int (nI k)), some (.int (nI f)), some (.int (nI row)), some (.int (nI t))]) (st' := [.int (nI k)]) (M' := N) rfl ⟨trivial, trivial⟩ ?_
        first
          | exact absurd (by assumption) (big_no ht0)
          | (have e : f = n := by omega
             exact g_ireturn (by decide +kernel) rfl rfl (hp [] k N B W ⟨e, rfl, rfl, rfl, rfl⟩ ⟨hy, hc, hs, hfr⟩))
      · have nc2 : f < n := by
          have z : ¬ nI n ≤ nI f := by simpa only [hnN, hnA, nI_add, pk_mul, nI_s1, n0_lit] using c2
          rw [nI_leI (by omega) (by omega)] at z
          omega
        refine blk 6 [(.aload_n 0, 0, 0, 0), (.iload_n 3, 0, 0, 0)] [] (by decide +kernel) rfl (pc' := 35) (ls' := [some (.ref 0), some (.int (nI k)), some (.int (nI f)), some (.int (nI row)), some (.int (nI t))]) (st' := [.int (nI row), .ref 0]) (M' := N) rfl ⟨trivial, trivial, trivial⟩ ?_
        refine g_callV (s_refineB N (B := B) (W := W) (i := row) hnN hn2 hn5 hrow hlN hs hc hy) ok_X6_polish_X6_refine (by decide +kernel) rfl (c := 6) rfl (by decide) rfl (Nat.le_of_ble_eq_true rfl) (fun r A hA => ?_) rfl
        obtain ⟨b, hr, hA⟩ := hA
        rw [hr]
        have hBB : B = 51 ∨ B = 61 := by rcases hs with h | h; exact Or.inl h.1; exact Or.inr h.1
        obtain ⟨V, v1, v2, v3, v4⟩ := rf_next hn5 hrow hBB hc hy hA
        have hA0 := hA
        obtain ⟨T, F, r0, m, ht, pb, pr, po, pf, pz, psh⟩ := hA
        have hnA : A 0 7 = nI n := by rw [pf 7 (by decide) (by decide)]; exact hnN
        have hfA : clFr M A := ⟨fun f h1 h2 => by rw [pf f h1 h2]; exact hfr.1 f h1 h2, fun z hz => by rw [pz z hz]; exact hfr.2 z hz⟩
        have hstep := nk_step (n := n) (k := k) (f := f) (t := t) htk (by omega)
        show G _ 38 [some (.ref 0), some (.int (nI k)), some (.int (nI f)), some (.int (nI row)), some (.int (nI t))] [.int (bI b)] A _
        refine g_if_eq (off := 11) (tgt := 49) (by decide +kernel) (by decide) (fun c3 => ?_) (fun c3 => ?_)
        · refine blk 6 [(.iinc 2 1, 0, 0, (nI 1)), (.iload_n 3, 0, 0, 0), (.iconst 1, 0, 0, (nI 1)), (.iadd, 0, 0, 0), (.aload_n 0, 0, 0, 0), (.getfield 67, 6, 7, 0)] [] (by decide +kernel) rfl (pc' := 59) (ls' := [some (.ref 0), some (.int (nI k)), some (.int (nI f + nI 1)), some (.int (nI row)), some (.int (nI t))]) (st' := [.int (A 0 7), .int ((nI row) + (nI 1))]) (M' := A) rfl ⟨trivial, trivial, trivial, trivial, trivial, rfl, trivial⟩ ?_
          refine g_icmp_ge (off := 9) (tgt := 68) (by decide +kernel) (by decide) (fun c4 => ?_) (fun c4 => ?_)
          · have nc4 : n ≤ (row + 1) := (nI_leI (by omega) (by omega)).mp (by simpa only [hnN, hnA, nI_add, pk_mul, nI_s1, n0_lit] using c4)
            refine blk 6 [(.iconst 0, 0, 0, (nI 0)), (.istore_n 3, 0, 0, 0), (.iinc 4 1, 0, 0, (nI 1)), (.goto (-55), 18, 0, 0)] [] (by decide +kernel) rfl (pc' := 18) (ls' := [some (.ref 0), some (.int (nI k)), some (.int (nI f + nI 1)), some (.int (nI 0)), some (.int (nI t + nI 1))]) (st' := []) (M' := A) rfl ⟨trivial, trivial, trivial, trivial, trivial⟩ ?_
            have hbt : b = false := bI_eq (by assumption)
            subst hbt
            refine G.sub (ls' := [some (.ref 0), some (.int (nI k)), some (.int (nI (f + 1))), some (.int (nI 0)), some (.int (nI (t + 1)))]) ?_ ⟨rfl, rfl, congrArg (fun z => some (Value.int z)) (by simp only [nI_add, nI_s1]), rfl, congrArg (fun z => some (Value.int z)) (by simp only [nI_add, nI_s1]), trivial⟩
            exact ih (d - 1) (by omega) (0) (f + 1) k (t + 1) A _ V (by omega) (by omega) (by omega) hstep.2 v2 v1 psh hfA (by rw [v4 rfl]; exact hpot) (fun l res N' B' W' hT hz => hp ((false, A, V) :: l) res N' B' W' ⟨by omega, hA0, v1.1, by rw [show (if row + 1 < n then row + 1 else 0) = 0 from if_neg (by omega)]; exact hT⟩ hz)
          · have nc4 : (row + 1) < n := by
              have z : ¬ nI n ≤ nI (row + 1) := by simpa only [hnN, hnA, nI_add, pk_mul, nI_s1, n0_lit] using c4
              rw [nI_leI (by omega) (by omega)] at z
              omega
            refine blk 6 [(.iload_n 3, 0, 0, 0), (.iconst 1, 0, 0, (nI 1)), (.iadd, 0, 0, 0), (.goto (4), 69, 0, 0), (.istore_n 3, 0, 0, 0), (.iinc 4 1, 0, 0, (nI 1)), (.goto (-55), 18, 0, 0)] [] (by decide +kernel) rfl (pc' := 18) (ls' := [some (.ref 0), some (.int (nI k)), some (.int (nI f + nI 1)), some (.int ((nI row) + (nI 1))), some (.int (nI t + nI 1))]) (st' := []) (M' := A) rfl ⟨trivial, trivial, trivial, trivial, trivial, trivial, trivial, trivial⟩ ?_
            have hbt : b = false := bI_eq (by assumption)
            subst hbt
            refine G.sub (ls' := [some (.ref 0), some (.int (nI k)), some (.int (nI (f + 1))), some (.int (nI (row + 1))), some (.int (nI (t + 1)))]) ?_ ⟨rfl, rfl, congrArg (fun z => some (Value.int z)) (by simp only [nI_add, nI_s1]), congrArg (fun z => some (Value.int z)) (by simp only [nI_add, nI_s1]), congrArg (fun z => some (Value.int z)) (by simp only [nI_add, nI_s1]), trivial⟩
            exact ih (d - 1) (by omega) (row + 1) (f + 1) k (t + 1) A _ V (by omega) (by omega) (by omega) hstep.2 v2 v1 psh hfA (by rw [v4 rfl]; exact hpot) (fun l res N' B' W' hT hz => hp ((false, A, V) :: l) res N' B' W' ⟨by omega, hA0, v1.1, by rw [show (if row + 1 < n then row + 1 else 0) = row + 1 from if_pos (by omega)]; exact hT⟩ hz)
        · refine blk 6 [(.iinc 1 1, 0, 0, (nI 1)), (.iconst 0, 0, 0, (nI 0)), (.istore_n 2, 0, 0, 0), (.goto (6), 52, 0, 0), (.iload_n 3, 0, 0, 0), (.iconst 1, 0, 0, (nI 1)), (.iadd, 0, 0, 0), (.aload_n 0, 0, 0, 0), (.getfield 67, 6, 7, 0)] [] (by decide +kernel) rfl (pc' := 59) (ls' := [some (.ref 0), some (.int (nI k + nI 1)), some (.int (nI 0)), some (.int (nI row)), some (.int (nI t))]) (st' := [.int (A 0 7), .int ((nI row) + (nI 1))]) (M' := A) rfl ⟨trivial, trivial, trivial, trivial, trivial, trivial, trivial, trivial, rfl, trivial⟩ ?_
          refine g_icmp_ge (off := 9) (tgt := 68) (by decide +kernel) (by decide) (fun c5 => ?_) (fun c5 => ?_)
          · have nc5 : n ≤ (row + 1) := (nI_leI (by omega) (by omega)).mp (by simpa only [hnN, hnA, nI_add, pk_mul, nI_s1, n0_lit] using c5)
            refine blk 6 [(.iconst 0, 0, 0, (nI 0)), (.istore_n 3, 0, 0, 0), (.iinc 4 1, 0, 0, (nI 1)), (.goto (-55), 18, 0, 0)] [] (by decide +kernel) rfl (pc' := 18) (ls' := [some (.ref 0), some (.int (nI k + nI 1)), some (.int (nI 0)), some (.int (nI 0)), some (.int (nI t + nI 1))]) (st' := []) (M' := A) rfl ⟨trivial, trivial, trivial, trivial, trivial⟩ ?_
            have hbt : b = true := bI_ne (by assumption)
            subst hbt
            refine G.sub (ls' := [some (.ref 0), some (.int (nI (k + 1))), some (.int (nI 0)), some (.int (nI 0)), some (.int (nI (t + 1)))]) ?_ ⟨rfl, congrArg (fun z => some (Value.int z)) (by simp only [nI_add, nI_s1]), rfl, rfl, congrArg (fun z => some (Value.int z)) (by simp only [nI_add, nI_s1]), trivial⟩
            exact ih (d - 1) (by omega) (0) 0 (k + 1) (t + 1) A _ V (by omega) (by omega) (by omega) (by omega) v2 v1 psh hfA (by have := v3 rfl; have hm := hmin row hrow; rw [show ((k + 1 : Nat) : Int) = (k : Int) + 1 from rfl, Int.add_mul]; omega) (fun l res N' B' W' hT hz => hp ((true, A, V) :: l) res N' B' W' ⟨by omega, hA0, v1.1, by rw [show (if row + 1 < n then row + 1 else 0) = 0 from if_neg (by omega)]; exact hT⟩ hz)
          · have nc5 : (row + 1) < n := by
              have z : ¬ nI n ≤ nI (row + 1) := by simpa only [hnN, hnA, nI_add, pk_mul, nI_s1, n0_lit] using c5
              rw [nI_leI (by omega) (by omega)] at z
              omega
            refine blk 6 [(.iload_n 3, 0, 0, 0), (.iconst 1, 0, 0, (nI 1)), (.iadd, 0, 0, 0), (.goto (4), 69, 0, 0), (.istore_n 3, 0, 0, 0), (.iinc 4 1, 0, 0, (nI 1)), (.goto (-55), 18, 0, 0)] [] (by decide +kernel) rfl (pc' := 18) (ls' := [some (.ref 0), some (.int (nI k + nI 1)), some (.int (nI 0)), some (.int ((nI row) + (nI 1))), some (.int (nI t + nI 1))]) (st' := []) (M' := A) rfl ⟨trivial, trivial, trivial, trivial, trivial, trivial, trivial, trivial⟩ ?_
            have hbt : b = true := bI_ne (by assumption)
            subst hbt
            refine G.sub (ls' := [some (.ref 0), some (.int (nI (k + 1))), some (.int (nI 0)), some (.int (nI (row + 1))), some (.int (nI (t + 1)))]) ?_ ⟨rfl, congrArg (fun z => some (Value.int z)) (by simp only [nI_add, nI_s1]), rfl, congrArg (fun z => some (Value.int z)) (by simp only [nI_add, nI_s1]), congrArg (fun z => some (Value.int z)) (by simp only [nI_add, nI_s1]), trivial⟩
            exact ih (d - 1) (by omega) (row + 1) 0 (k + 1) (t + 1) A _ V (by omega) (by omega) (by omega) (by omega) v2 v1 psh hfA (by have := v3 rfl; have hm := hmin row hrow; rw [show ((k + 1 : Nat) : Int) = (k : Int) + 1 from rfl, Int.add_mul]; omega) (fun l res N' B' W' hT hz => hp ((true, A, V) :: l) res N' B' W' ⟨by omega, hA0, v1.1, by rw [show (if row + 1 < n then row + 1 else 0) = row + 1 from if_pos (by omega)]; exact hT⟩ hz)
theorem s_polish1 (M : Mem) {B n W : Nat} {ln ws : Nat → Nat} (hn : M 0 7 = nI n) (hn2 : 2 ≤ n) (hn5 : n ≤ 5) (hl : ¬ M 0 11 = 0) (hs : shAt M B) (hc : clsOK M n ln) (hy : layC M B n W ln ws) : Spec mX6_polish [.ref 0] M (fun r N => ∃ l res B' W', r = some (.int (nI res)) ∧ Turns n ln res N B' W' l 0 0 0 M B W ∧ layC N B' n W' ln ws ∧ clsOK N n ln ∧ shAt N B' ∧ clFr M N) := by
  obtain ⟨j0, hj0, hmin⟩ := min_at (w := ws) n (by omega)
  have hti := totC_int hn5 (fun a ha => (hc.2.1 a ha).2.2.1) hy.1 hc.2.2.2.1 hc.2.2.2.2.1 hc.2.2.2.2.2 hy.2.1 hy.2.2.1
  refine Spec.of (by decide) (by simp [Value.category]) (Nat.le_of_ble_eq_true rfl) ?_
  refine blk 6 [(.aload_n 0, 0, 0, 0), (.getfield 74, 6, 11, 0)] [] (by decide +kernel) rfl (pc' := 4) (ls' := [some (.ref 0), none, none, none, none]) (st' := [.int (M 0 11)]) (M' := M) rfl ⟨trivial, rfl, trivial⟩ ?_
  refine g_if_ne (off := 5) (tgt := 9) (by decide +kernel) (by decide) (fun c1 => ?_) (fun c1 => ?_)
  · refine blk 6 [(.iconst 0, 0, 0, (nI 0)), (.istore_n 1, 0, 0, 0), (.iconst 0, 0, 0, (nI 0)), (.istore_n 2, 0, 0, 0), (.iconst 0, 0, 0, (nI 0)), (.istore_n 3, 0, 0, 0), (.iconst 0, 0, 0, (nI 0)), (.istore 4, 0, 0, 0)] [] (by decide +kernel) rfl (pc' := 18) (ls' := [some (.ref 0), some (.int (nI 0)), some (.int (nI 0)), some (.int (nI 0)), some (.int (nI 0))]) (st' := []) (M' := M) rfl ⟨trivial, trivial, trivial, trivial, trivial, trivial, trivial, trivial, trivial⟩ ?_
    refine G.sub (ls' := [some (.ref 0), some (.int (nI 0)), some (.int (nI 0)), some (.int (nI 0)), some (.int (nI 0))]) ?_ ⟨rfl, rfl, rfl, rfl, rfl, trivial⟩
    exact l_pol (M := M) (w0 := ws j0) (T0 := totI M B W n ws) hn hn2 hn5 hl (hy.2.1 j0 hj0).1 (hy.2.1 j0 hj0).2.2 hmin hti.2.1 _ 0 0 0 0 M B W rfl (by omega) (by omega) (by omega) hc hy hs ⟨fun _ _ _ => rfl, fun _ _ => rfl⟩ (by omega) (fun l res N' B' W' hT hz => ⟨l, res, B', W', rfl, hT, hz⟩)
  · refine blk 6 [(.iconst (-1), 0, 0, (-1))] [] (by decide +kernel) rfl (pc' := 8) (ls' := [some (.ref 0), none, none, none, none]) (st' := [.int (-1)]) (M' := M) rfl ⟨trivial, trivial⟩ ?_
    exact absurd (by assumption) hl
theorem s_polish0 (M : Mem) (hl : M 0 11 = 0) : Spec mX6_polish [.ref 0] M (Ret (-1) M) := by
  refine Spec.of (by decide) (by simp [Value.category]) (Nat.le_of_ble_eq_true rfl) ?_
  refine blk 6 [(.aload_n 0, 0, 0, 0), (.getfield 74, 6, 11, 0)] [] (by decide +kernel) rfl (pc' := 4) (ls' := [some (.ref 0), none, none, none, none]) (st' := [.int (M 0 11)]) (M' := M) rfl ⟨trivial, rfl, trivial⟩ ?_
  refine g_if_ne (off := 5) (tgt := 9) (by decide +kernel) (by decide) (fun c1 => ?_) (fun c1 => ?_)
  · exact absurd hl (by assumption)
  · refine blk 6 [(.iconst (-1), 0, 0, (-1))] [] (by decide +kernel) rfl (pc' := 8) (ls' := [some (.ref 0), none, none, none, none]) (st' := [.int (-1)]) (M' := M) rfl ⟨trivial, trivial⟩ ?_
    exact g_ireturn (by decide +kernel) rfl rfl ⟨rfl, rfl⟩
