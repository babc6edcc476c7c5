/-! the law's cases -/
def LVi (b : Nat) (ad : Nat → Nat) (i : Nat) : List (Nat × Value) := [(3, .int (nI i)), (0, .ref b), (1, .ref (ad 0)), (2, .ref (ad 72))]
def flg (x : Int32) : Int32 := if x = 0 then 0 else 1
theorem flg_01 (x : Int32) : flg x = 0 ∨ flg x = 1 := by unfold flg; split; exact Or.inl rfl; exact Or.inr rfl
theorem okl_6_type : okLw mX6_type 13 1 := ⟨by decide +kernel, by decide +kernel, by decide +kernel, by decide +kernel, TB_in (by decide +kernel) (by decide +kernel), ⟨by decide +kernel, by decide +kernel, by decide +kernel⟩, Nat.le_of_ble_eq_true rfl, Nat.le_of_ble_eq_true rfl⟩
theorem okl_7_type : okLw mX7_type 17 1 := ⟨by decide +kernel, by decide +kernel, by decide +kernel, by decide +kernel, TB_in (by decide +kernel) (by decide +kernel), ⟨by decide +kernel, by decide +kernel, by decide +kernel⟩, Nat.le_of_ble_eq_true rfl, Nat.le_of_ble_eq_true rfl⟩
theorem okl_6_end : okLw mX6_end 18 0 := ⟨by decide +kernel, by decide +kernel, by decide +kernel, by decide +kernel, TB_in (by decide +kernel) (by decide +kernel), ⟨by decide +kernel, by decide +kernel, by decide +kernel⟩, Nat.le_of_ble_eq_true rfl, Nat.le_of_ble_eq_true rfl⟩
theorem okl_7_end : okLw mX7_end 22 0 := ⟨by decide +kernel, by decide +kernel, by decide +kernel, by decide +kernel, TB_in (by decide +kernel) (by decide +kernel), ⟨by decide +kernel, by decide +kernel, by decide +kernel⟩, Nat.le_of_ble_eq_true rfl, Nat.le_of_ble_eq_true rfl⟩
theorem okl_6_score : okLw mX6_score 23 3 := ⟨by decide +kernel, by decide +kernel, by decide +kernel, by decide +kernel, TB_in (by decide +kernel) (by decide +kernel), ⟨by decide +kernel, by decide +kernel, by decide +kernel⟩, Nat.le_of_ble_eq_true rfl, Nat.le_of_ble_eq_true rfl⟩
theorem okl_7_score : okLw mX7_score 27 3 := ⟨by decide +kernel, by decide +kernel, by decide +kernel, by decide +kernel, TB_in (by decide +kernel) (by decide +kernel), ⟨by decide +kernel, by decide +kernel, by decide +kernel⟩, Nat.le_of_ble_eq_true rfl, Nat.le_of_ble_eq_true rfl⟩
theorem okl_6_gaps : okLw mX6_gaps 28 2 := ⟨by decide +kernel, by decide +kernel, by decide +kernel, by decide +kernel, TB_in (by decide +kernel) (by decide +kernel), ⟨by decide +kernel, by decide +kernel, by decide +kernel⟩, Nat.le_of_ble_eq_true rfl, Nat.le_of_ble_eq_true rfl⟩
theorem okl_7_gaps : okLw mX7_gaps 32 2 := ⟨by decide +kernel, by decide +kernel, by decide +kernel, by decide +kernel, TB_in (by decide +kernel) (by decide +kernel), ⟨by decide +kernel, by decide +kernel, by decide +kernel⟩, Nat.le_of_ble_eq_true rfl, Nat.le_of_ble_eq_true rfl⟩
theorem okl_6_settings : okLw mX6_settings 33 3 := ⟨by decide +kernel, by decide +kernel, by decide +kernel, by decide +kernel, TB_in (by decide +kernel) (by decide +kernel), ⟨by decide +kernel, by decide +kernel, by decide +kernel⟩, Nat.le_of_ble_eq_true rfl, Nat.le_of_ble_eq_true rfl⟩
theorem okl_7_settings : okLw mX7_settings 37 3 := ⟨by decide +kernel, by decide +kernel, by decide +kernel, by decide +kernel, TB_in (by decide +kernel) (by decide +kernel), ⟨by decide +kernel, by decide +kernel, by decide +kernel⟩, Nat.le_of_ble_eq_true rfl, Nat.le_of_ble_eq_true rfl⟩
theorem okl_6_words : okLw mX6_words 38 0 := ⟨by decide +kernel, by decide +kernel, by decide +kernel, by decide +kernel, TB_in (by decide +kernel) (by decide +kernel), ⟨by decide +kernel, by decide +kernel, by decide +kernel⟩, Nat.le_of_ble_eq_true rfl, Nat.le_of_ble_eq_true rfl⟩
theorem okl_7_words : okLw mX7_words 41 0 := ⟨by decide +kernel, by decide +kernel, by decide +kernel, by decide +kernel, TB_in (by decide +kernel) (by decide +kernel), ⟨by decide +kernel, by decide +kernel, by decide +kernel⟩, Nat.le_of_ble_eq_true rfl, Nat.le_of_ble_eq_true rfl⟩
theorem okl_6_pair : okLw mX6_pair 42 2 := ⟨by decide +kernel, by decide +kernel, by decide +kernel, by decide +kernel, TB_in (by decide +kernel) (by decide +kernel), ⟨by decide +kernel, by decide +kernel, by decide +kernel⟩, Nat.le_of_ble_eq_true rfl, Nat.le_of_ble_eq_true rfl⟩
theorem okl_7_pair : okLw mX7_pair 46 2 := ⟨by decide +kernel, by decide +kernel, by decide +kernel, by decide +kernel, TB_in (by decide +kernel) (by decide +kernel), ⟨by decide +kernel, by decide +kernel, by decide +kernel⟩, Nat.le_of_ble_eq_true rfl, Nat.le_of_ble_eq_true rfl⟩
theorem okl_6_distance : okLw mX6_distance 47 2 := ⟨by decide +kernel, by decide +kernel, by decide +kernel, by decide +kernel, TB_in (by decide +kernel) (by decide +kernel), ⟨by decide +kernel, by decide +kernel, by decide +kernel⟩, Nat.le_of_ble_eq_true rfl, Nat.le_of_ble_eq_true rfl⟩
theorem okl_7_distance : okLw mX7_distance 50 2 := ⟨by decide +kernel, by decide +kernel, by decide +kernel, by decide +kernel, TB_in (by decide +kernel) (by decide +kernel), ⟨by decide +kernel, by decide +kernel, by decide +kernel⟩, Nat.le_of_ble_eq_true rfl, Nat.le_of_ble_eq_true rfl⟩
theorem okl_6_align : okLw mX6_align 51 0 := ⟨by decide +kernel, by decide +kernel, by decide +kernel, by decide +kernel, TB_in (by decide +kernel) (by decide +kernel), ⟨by decide +kernel, by decide +kernel, by decide +kernel⟩, Nat.le_of_ble_eq_true rfl, Nat.le_of_ble_eq_true rfl⟩
theorem okl_7_align : okLw mX7_align 54 0 := ⟨by decide +kernel, by decide +kernel, by decide +kernel, by decide +kernel, TB_in (by decide +kernel) (by decide +kernel), ⟨by decide +kernel, by decide +kernel, by decide +kernel⟩, Nat.le_of_ble_eq_true rfl, Nat.le_of_ble_eq_true rfl⟩
theorem okl_6_columns : okLw mX6_columns 55 0 := ⟨by decide +kernel, by decide +kernel, by decide +kernel, by decide +kernel, TB_in (by decide +kernel) (by decide +kernel), ⟨by decide +kernel, by decide +kernel, by decide +kernel⟩, Nat.le_of_ble_eq_true rfl, Nat.le_of_ble_eq_true rfl⟩
theorem okl_7_columns : okLw mX7_columns 58 0 := ⟨by decide +kernel, by decide +kernel, by decide +kernel, by decide +kernel, TB_in (by decide +kernel) (by decide +kernel), ⟨by decide +kernel, by decide +kernel, by decide +kernel⟩, Nat.le_of_ble_eq_true rfl, Nat.le_of_ble_eq_true rfl⟩
theorem okl_6_at : okLw mX6_at 59 2 := ⟨by decide +kernel, by decide +kernel, by decide +kernel, by decide +kernel, TB_in (by decide +kernel) (by decide +kernel), ⟨by decide +kernel, by decide +kernel, by decide +kernel⟩, Nat.le_of_ble_eq_true rfl, Nat.le_of_ble_eq_true rfl⟩
theorem okl_7_at : okLw mX7_at 63 2 := ⟨by decide +kernel, by decide +kernel, by decide +kernel, by decide +kernel, TB_in (by decide +kernel) (by decide +kernel), ⟨by decide +kernel, by decide +kernel, by decide +kernel⟩, Nat.le_of_ble_eq_true rfl, Nat.le_of_ble_eq_true rfl⟩
theorem okl_6_mark : okLw mX6_mark 64 1 := ⟨by decide +kernel, by decide +kernel, by decide +kernel, by decide +kernel, TB_in (by decide +kernel) (by decide +kernel), ⟨by decide +kernel, by decide +kernel, by decide +kernel⟩, Nat.le_of_ble_eq_true rfl, Nat.le_of_ble_eq_true rfl⟩
theorem okl_7_mark : okLw mX7_mark 68 1 := ⟨by decide +kernel, by decide +kernel, by decide +kernel, by decide +kernel, TB_in (by decide +kernel) (by decide +kernel), ⟨by decide +kernel, by decide +kernel, by decide +kernel⟩, Nat.le_of_ble_eq_true rfl, Nat.le_of_ble_eq_true rfl⟩
theorem okl_6_child : okLw mX6_child 69 2 := ⟨by decide +kernel, by decide +kernel, by decide +kernel, by decide +kernel, TB_in (by decide +kernel) (by decide +kernel), ⟨by decide +kernel, by decide +kernel, by decide +kernel⟩, Nat.le_of_ble_eq_true rfl, Nat.le_of_ble_eq_true rfl⟩
theorem okl_7_child : okLw mX7_child 72 2 := ⟨by decide +kernel, by decide +kernel, by decide +kernel, by decide +kernel, TB_in (by decide +kernel) (by decide +kernel), ⟨by decide +kernel, by decide +kernel, by decide +kernel⟩, Nat.le_of_ble_eq_true rfl, Nat.le_of_ble_eq_true rfl⟩
theorem okl_6_worth : okLw mX6_worth 73 1 := ⟨by decide +kernel, by decide +kernel, by decide +kernel, by decide +kernel, TB_in (by decide +kernel) (by decide +kernel), ⟨by decide +kernel, by decide +kernel, by decide +kernel⟩, Nat.le_of_ble_eq_true rfl, Nat.le_of_ble_eq_true rfl⟩
theorem okl_7_worth : okLw mX7_worth 77 1 := ⟨by decide +kernel, by decide +kernel, by decide +kernel, by decide +kernel, TB_in (by decide +kernel) (by decide +kernel), ⟨by decide +kernel, by decide +kernel, by decide +kernel⟩, Nat.le_of_ble_eq_true rfl, Nat.le_of_ble_eq_true rfl⟩
theorem okl_6_weight : okLw mX6_weight 78 1 := ⟨by decide +kernel, by decide +kernel, by decide +kernel, by decide +kernel, TB_in (by decide +kernel) (by decide +kernel), ⟨by decide +kernel, by decide +kernel, by decide +kernel⟩, Nat.le_of_ble_eq_true rfl, Nat.le_of_ble_eq_true rfl⟩
theorem okl_7_weight : okLw mX7_weight 81 1 := ⟨by decide +kernel, by decide +kernel, by decide +kernel, by decide +kernel, TB_in (by decide +kernel) (by decide +kernel), ⟨by decide +kernel, by decide +kernel, by decide +kernel⟩, Nat.le_of_ble_eq_true rfl, Nat.le_of_ble_eq_true rfl⟩
theorem okl_6_total : okLw mX6_total 82 0 := ⟨by decide +kernel, by decide +kernel, by decide +kernel, by decide +kernel, TB_in (by decide +kernel) (by decide +kernel), ⟨by decide +kernel, by decide +kernel, by decide +kernel⟩, Nat.le_of_ble_eq_true rfl, Nat.le_of_ble_eq_true rfl⟩
theorem okl_7_total : okLw mX7_total 85 0 := ⟨by decide +kernel, by decide +kernel, by decide +kernel, by decide +kernel, TB_in (by decide +kernel) (by decide +kernel), ⟨by decide +kernel, by decide +kernel, by decide +kernel⟩, Nat.le_of_ble_eq_true rfl, Nat.le_of_ble_eq_true rfl⟩
theorem okl_6_refine : okLw mX6_refine 86 1 := ⟨by decide +kernel, by decide +kernel, by decide +kernel, by decide +kernel, TB_in (by decide +kernel) (by decide +kernel), ⟨by decide +kernel, by decide +kernel, by decide +kernel⟩, Nat.le_of_ble_eq_true rfl, Nat.le_of_ble_eq_true rfl⟩
theorem okl_7_refine : okLw mX7_refine 90 1 := ⟨by decide +kernel, by decide +kernel, by decide +kernel, by decide +kernel, TB_in (by decide +kernel) (by decide +kernel), ⟨by decide +kernel, by decide +kernel, by decide +kernel⟩, Nat.le_of_ble_eq_true rfl, Nat.le_of_ble_eq_true rfl⟩
theorem okl_6_polish : okLw mX6_polish 91 0 := ⟨by decide +kernel, by decide +kernel, by decide +kernel, by decide +kernel, TB_in (by decide +kernel) (by decide +kernel), ⟨by decide +kernel, by decide +kernel, by decide +kernel⟩, Nat.le_of_ble_eq_true rfl, Nat.le_of_ble_eq_true rfl⟩
theorem okl_7_polish : okLw mX7_polish 94 0 := ⟨by decide +kernel, by decide +kernel, by decide +kernel, by decide +kernel, TB_in (by decide +kernel) (by decide +kernel), ⟨by decide +kernel, by decide +kernel, by decide +kernel⟩, Nat.le_of_ble_eq_true rfl, Nat.le_of_ble_eq_true rfl⟩
section LC
variable {p : Program} {l : Launch} {e : Env} {s : State} {m : MethodId} {below : List Frame} {meth : Method} {c : Code} {b L : Nat} {xs : Nat → Int32} {D : va_G} {κ : ClassId × ClassId × ClassId} {ad : Nat → Nat} {pc : Nat} {st : List Value} {M : Mem} {i : Nat}
theorem L_arg {j : Nat} {j' : Int} (C : CL p s m meth c b L xs D κ ad) (hL : L ≤ 2048) (h : i + j < L) (d1 : decode code pc = .ok (.aload_n 0, 1)) (d2 : decode code (pc + 1) = .ok (.iload_n 3, 1)) (d3 : decode code (pc + 2) = .ok (.iconst j', 1)) (hj : Int32.ofInt j' = nI j) (d4 : decode code (pc + 3) = .ok (.iadd, 1)) (d5 : decode code (pc + 4) = .ok (.iaload, 1)) (k : GL p l e s m below meth c b D κ ad (pc + 5) (LVi b ad i) (.int (xs (i + j)) :: st) M) : GL p l e s m below meth c b D κ ad pc (LVi b ad i) st M := by
  refine L_aload (j := 0) 1 C d1 rfl ?_
  refine L_iload (j := 3) 0 C d2 rfl ?_
  refine L_iconst (v := nI j) C d3 hj ?_
  refine L_iadd C d4 ?_
  exact L_read (j := i + j) C d5 (nI_add i j) h hL k
theorem L_flag {j tgt fin : Nat} {j' o1 o2 : Int} (C : CL p s m meth c b L xs D κ ad) (hL : L ≤ 2048) (h : i + j < L) (d1 : decode code pc = .ok (.aload_n 0, 1)) (d2 : decode code (pc + 1) = .ok (.iload_n 3, 1)) (d3 : decode code (pc + 2) = .ok (.iconst j', 1)) (hj : Int32.ofInt j' = nI j) (d4 : decode code (pc + 3) = .ok (.iadd, 1)) (d5 : decode code (pc + 4) = .ok (.iaload, 1)) (d6 : decode code (pc + 5) = .ok (.ifCond .eq o1, 3)) (t6 : ((pc + 5 : Nat) : Int) + o1 = (tgt : Int)) (d7 : decode code (pc + 8) = .ok (.iconst 1, 1)) (d8 : decode code (pc + 9) = .ok (.goto o2, 3)) (t8 : ((pc + 9 : Nat) : Int) + o2 = (fin : Int)) (d9 : decode code tgt = .ok (.iconst 0, 1)) (hf : tgt + 1 = fin) (k : GL p l e s m below meth c b D κ ad fin (LVi b ad i) (.int (flg (xs (i + j))) :: st) M) : GL p l e s m below meth c b D κ ad pc (LVi b ad i) st M := by
  refine L_arg (j := j) C hL h d1 d2 d3 hj d4 d5 ?_
  refine L_if_eq C d6 t6 (fun z => ?_) (fun z => ?_)
  · refine L_iconst (v := 0) C d9 (by decide) ?_
    rw [hf]
    have e : flg (xs (i + j)) = 0 := if_pos z
    rw [e] at k
    exact k
  · refine L_iconst (v := 1) C d7 (by decide) ?_
    have e : flg (xs (i + j)) = 1 := if_neg z
    rw [e] at k
    exact L_goto C d8 t8 k
theorem L_case0 (C : CL p s m meth c b L xs D κ ad) (hL : L ≤ 2048) (hi : i + 4 ≤ L) (hI : Inv M) (hp : ∀ M', Inv M' → GL p l e s m below meth c b D κ ad 612 (LVi b ad i) [] M') : GL p l e s m below meth c b D κ ad 120 (LVi b ad i) [] M := by
  obtain ⟨P, hS1, hP⟩ := tw_type ((xs (i + 1)).toUInt32 % 65536).toInt32 hI
  refine L_aload (j := 1) 2 C (by decide +kernel) rfl ?_
  refine L_arg (j := 1) (j' := 1) C hL (by omega) (by decide +kernel) (by decide +kernel) (by decide +kernel) (by decide +kernel) (by decide +kernel) (by decide +kernel) ?_
  refine L_i2c C (by decide +kernel) ?_
  refine L_call (index := 13) (t := 0) (c0 := 6) (As := [.int ((xs (i + 1)).toUInt32 % 65536).toInt32]) C hS1 okl_6_type (by decide +kernel) rfl rfl rfl (by decide) rfl (Nat.le_of_ble_eq_true rfl) rfl (fun r N hN => ?_)
  obtain ⟨x, P', hr, hS2, hP2⟩ := hP r N hN
  rw [hr]
  show GL p l e s m below meth c b D κ ad 130 (LVi b ad i) [.int x] N
  refine L_aload (j := 2) 3 C (by decide +kernel) rfl ?_
  refine L_arg (j := 1) (j' := 1) C hL (by omega) (by decide +kernel) (by decide +kernel) (by decide +kernel) (by decide +kernel) (by decide +kernel) (by decide +kernel) ?_
  refine L_i2c C (by decide +kernel) ?_
  refine L_call (index := 17) (t := 72) (c0 := 7) (As := [.int ((xs (i + 1)).toUInt32 % 65536).toInt32]) C hS2 okl_7_type (by decide +kernel) rfl rfl rfl (by decide) rfl (Nat.le_of_ble_eq_true rfl) rfl (fun r' N' h2 => ?_)
  obtain ⟨hr2, hI2⟩ := hP2 r' N' h2
  rw [hr2]
  show GL p l e s m below meth c b D κ ad 140 (LVi b ad i) [.int x, .int x] N'
  refine L_same (off := 472) (tgt := 612) C (by decide +kernel) (by decide) ?_
  exact hp N' hI2
theorem L_case1 (C : CL p s m meth c b L xs D κ ad) (hL : L ≤ 2048) (hi : i + 4 ≤ L) (hI : Inv M) (hp : ∀ M', Inv M' → GL p l e s m below meth c b D κ ad 612 (LVi b ad i) [] M') : GL p l e s m below meth c b D κ ad 145 (LVi b ad i) [] M := by
  obtain ⟨P, hS1, hP⟩ := tw_end  hI
  refine L_aload (j := 1) 2 C (by decide +kernel) rfl ?_
  refine L_call (index := 18) (t := 0) (c0 := 6) (As := []) C hS1 okl_6_end (by decide +kernel) rfl rfl rfl (by decide) rfl (Nat.le_of_ble_eq_true rfl) rfl (fun r N hN => ?_)
  obtain ⟨x, P', hr, hS2, hP2⟩ := hP r N hN
  rw [hr]
  show GL p l e s m below meth c b D κ ad 149 (LVi b ad i) [.int x] N
  refine L_aload (j := 2) 3 C (by decide +kernel) rfl ?_
  refine L_call (index := 22) (t := 72) (c0 := 7) (As := []) C hS2 okl_7_end (by decide +kernel) rfl rfl rfl (by decide) rfl (Nat.le_of_ble_eq_true rfl) rfl (fun r' N' h2 => ?_)
  obtain ⟨hr2, hI2⟩ := hP2 r' N' h2
  rw [hr2]
  show GL p l e s m below meth c b D κ ad 153 (LVi b ad i) [.int x, .int x] N'
  refine L_same (off := 459) (tgt := 612) C (by decide +kernel) (by decide) ?_
  exact hp N' hI2
theorem L_case2 (C : CL p s m meth c b L xs D κ ad) (hL : L ≤ 2048) (hi : i + 4 ≤ L) (hI : Inv M) (hp : ∀ M', Inv M' → GL p l e s m below meth c b D κ ad 612 (LVi b ad i) [] M') : GL p l e s m below meth c b D κ ad 158 (LVi b ad i) [] M := by
  obtain ⟨P, hS1, hP⟩ := tw_score (xs (i + 1)) (xs (i + 2)) (xs (i + 3)) hI
  refine L_aload (j := 1) 2 C (by decide +kernel) rfl ?_
  refine L_arg (j := 1) (j' := 1) C hL (by omega) (by decide +kernel) (by decide +kernel) (by decide +kernel) (by decide +kernel) (by decide +kernel) (by decide +kernel) ?_
  refine L_arg (j := 2) (j' := 2) C hL (by omega) (by decide +kernel) (by decide +kernel) (by decide +kernel) (by decide +kernel) (by decide +kernel) (by decide +kernel) ?_
  refine L_arg (j := 3) (j' := 3) C hL (by omega) (by decide +kernel) (by decide +kernel) (by decide +kernel) (by decide +kernel) (by decide +kernel) (by decide +kernel) ?_
  refine L_call (index := 23) (t := 0) (c0 := 6) (As := [.int (xs (i + 1)), .int (xs (i + 2)), .int (xs (i + 3))]) C hS1 okl_6_score (by decide +kernel) rfl rfl rfl (by decide) rfl (Nat.le_of_ble_eq_true rfl) rfl (fun r N hN => ?_)
  obtain ⟨x, P', hr, hS2, hP2⟩ := hP r N hN
  rw [hr]
  show GL p l e s m below meth c b D κ ad 177 (LVi b ad i) [.int x] N
  refine L_aload (j := 2) 3 C (by decide +kernel) rfl ?_
  refine L_arg (j := 1) (j' := 1) C hL (by omega) (by decide +kernel) (by decide +kernel) (by decide +kernel) (by decide +kernel) (by decide +kernel) (by decide +kernel) ?_
  refine L_arg (j := 2) (j' := 2) C hL (by omega) (by decide +kernel) (by decide +kernel) (by decide +kernel) (by decide +kernel) (by decide +kernel) (by decide +kernel) ?_
  refine L_arg (j := 3) (j' := 3) C hL (by omega) (by decide +kernel) (by decide +kernel) (by decide +kernel) (by decide +kernel) (by decide +kernel) (by decide +kernel) ?_
  refine L_call (index := 27) (t := 72) (c0 := 7) (As := [.int (xs (i + 1)), .int (xs (i + 2)), .int (xs (i + 3))]) C hS2 okl_7_score (by decide +kernel) rfl rfl rfl (by decide) rfl (Nat.le_of_ble_eq_true rfl) rfl (fun r' N' h2 => ?_)
  obtain ⟨hr2, hI2⟩ := hP2 r' N' h2
  rw [hr2]
  show GL p l e s m below meth c b D κ ad 196 (LVi b ad i) [.int x, .int x] N'
  refine L_same (off := 416) (tgt := 612) C (by decide +kernel) (by decide) ?_
  exact hp N' hI2
theorem L_case3 (C : CL p s m meth c b L xs D κ ad) (hL : L ≤ 2048) (hi : i + 4 ≤ L) (hI : Inv M) (hp : ∀ M', Inv M' → GL p l e s m below meth c b D κ ad 612 (LVi b ad i) [] M') : GL p l e s m below meth c b D κ ad 201 (LVi b ad i) [] M := by
  obtain ⟨P, hS1, hP⟩ := tw_gaps (xs (i + 1)) (xs (i + 2)) hI
  refine L_aload (j := 1) 2 C (by decide +kernel) rfl ?_
  refine L_arg (j := 1) (j' := 1) C hL (by omega) (by decide +kernel) (by decide +kernel) (by decide +kernel) (by decide +kernel) (by decide +kernel) (by decide +kernel) ?_
  refine L_arg (j := 2) (j' := 2) C hL (by omega) (by decide +kernel) (by decide +kernel) (by decide +kernel) (by decide +kernel) (by decide +kernel) (by decide +kernel) ?_
  refine L_call (index := 28) (t := 0) (c0 := 6) (As := [.int (xs (i + 1)), .int (xs (i + 2))]) C hS1 okl_6_gaps (by decide +kernel) rfl rfl rfl (by decide) rfl (Nat.le_of_ble_eq_true rfl) rfl (fun r N hN => ?_)
  obtain ⟨x, P', hr, hS2, hP2⟩ := hP r N hN
  rw [hr]
  show GL p l e s m below meth c b D κ ad 215 (LVi b ad i) [.int x] N
  refine L_aload (j := 2) 3 C (by decide +kernel) rfl ?_
  refine L_arg (j := 1) (j' := 1) C hL (by omega) (by decide +kernel) (by decide +kernel) (by decide +kernel) (by decide +kernel) (by decide +kernel) (by decide +kernel) ?_
  refine L_arg (j := 2) (j' := 2) C hL (by omega) (by decide +kernel) (by decide +kernel) (by decide +kernel) (by decide +kernel) (by decide +kernel) (by decide +kernel) ?_
  refine L_call (index := 32) (t := 72) (c0 := 7) (As := [.int (xs (i + 1)), .int (xs (i + 2))]) C hS2 okl_7_gaps (by decide +kernel) rfl rfl rfl (by decide) rfl (Nat.le_of_ble_eq_true rfl) rfl (fun r' N' h2 => ?_)
  obtain ⟨hr2, hI2⟩ := hP2 r' N' h2
  rw [hr2]
  show GL p l e s m below meth c b D κ ad 229 (LVi b ad i) [.int x, .int x] N'
  refine L_same (off := 383) (tgt := 612) C (by decide +kernel) (by decide) ?_
  exact hp N' hI2
theorem L_case4 (C : CL p s m meth c b L xs D κ ad) (hL : L ≤ 2048) (hi : i + 4 ≤ L) (hI : Inv M) (hp : ∀ M', Inv M' → GL p l e s m below meth c b D κ ad 612 (LVi b ad i) [] M') : GL p l e s m below meth c b D κ ad 234 (LVi b ad i) [] M := by
  obtain ⟨P, hS1, hP⟩ := tw_settings (flg_01 (xs (i + 1))) (flg_01 (xs (i + 2))) (flg_01 (xs (i + 3))) hI
  refine L_aload (j := 1) 2 C (by decide +kernel) rfl ?_
  refine L_flag (j := 1) (j' := 1) (o1 := 7) (o2 := 4) (tgt := 247) (fin := 248) C hL (by omega) (by decide +kernel) (by decide +kernel) (by decide +kernel) (by decide +kernel) (by decide +kernel) (by decide +kernel) (by decide +kernel) (by decide) (by decide +kernel) (by decide +kernel) (by decide) (by decide +kernel) rfl ?_
  refine L_flag (j := 2) (j' := 2) (o1 := 7) (o2 := 4) (tgt := 260) (fin := 261) C hL (by omega) (by decide +kernel) (by decide +kernel) (by decide +kernel) (by decide +kernel) (by decide +kernel) (by decide +kernel) (by decide +kernel) (by decide) (by decide +kernel) (by decide +kernel) (by decide) (by decide +kernel) rfl ?_
  refine L_flag (j := 3) (j' := 3) (o1 := 7) (o2 := 4) (tgt := 273) (fin := 274) C hL (by omega) (by decide +kernel) (by decide +kernel) (by decide +kernel) (by decide +kernel) (by decide +kernel) (by decide +kernel) (by decide +kernel) (by decide) (by decide +kernel) (by decide +kernel) (by decide) (by decide +kernel) rfl ?_
  refine L_call (index := 33) (t := 0) (c0 := 6) (As := [.int (flg (xs (i + 1))), .int (flg (xs (i + 2))), .int (flg (xs (i + 3)))]) C hS1 okl_6_settings (by decide +kernel) rfl rfl rfl (by decide) rfl (Nat.le_of_ble_eq_true rfl) rfl (fun r N hN => ?_)
  obtain ⟨P', hr, hS2, hP2⟩ := hP r N hN
  rw [hr]
  show GL p l e s m below meth c b D κ ad 277 (LVi b ad i) [] N
  refine L_aload (j := 2) 3 C (by decide +kernel) rfl ?_
  refine L_flag (j := 1) (j' := 1) (o1 := 7) (o2 := 4) (tgt := 290) (fin := 291) C hL (by omega) (by decide +kernel) (by decide +kernel) (by decide +kernel) (by decide +kernel) (by decide +kernel) (by decide +kernel) (by decide +kernel) (by decide) (by decide +kernel) (by decide +kernel) (by decide) (by decide +kernel) rfl ?_
  refine L_flag (j := 2) (j' := 2) (o1 := 7) (o2 := 4) (tgt := 303) (fin := 304) C hL (by omega) (by decide +kernel) (by decide +kernel) (by decide +kernel) (by decide +kernel) (by decide +kernel) (by decide +kernel) (by decide +kernel) (by decide) (by decide +kernel) (by decide +kernel) (by decide) (by decide +kernel) rfl ?_
  refine L_flag (j := 3) (j' := 3) (o1 := 7) (o2 := 4) (tgt := 316) (fin := 317) C hL (by omega) (by decide +kernel) (by decide +kernel) (by decide +kernel) (by decide +kernel) (by decide +kernel) (by decide +kernel) (by decide +kernel) (by decide) (by decide +kernel) (by decide +kernel) (by decide) (by decide +kernel) rfl ?_
  refine L_call (index := 37) (t := 72) (c0 := 7) (As := [.int (flg (xs (i + 1))), .int (flg (xs (i + 2))), .int (flg (xs (i + 3)))]) C hS2 okl_7_settings (by decide +kernel) rfl rfl rfl (by decide) rfl (Nat.le_of_ble_eq_true rfl) rfl (fun r' N' h2 => ?_)
  obtain ⟨hr2, hI2⟩ := hP2 r' N' h2
  rw [hr2]
  show GL p l e s m below meth c b D κ ad 320 (LVi b ad i) [] N'
  refine L_goto (off := 292) (tgt := 612) C (by decide +kernel) (by decide) ?_
  exact hp N' hI2
theorem L_case5 (C : CL p s m meth c b L xs D κ ad) (hL : L ≤ 2048) (hi : i + 4 ≤ L) (hI : Inv M) (hp : ∀ M', Inv M' → GL p l e s m below meth c b D κ ad 612 (LVi b ad i) [] M') : GL p l e s m below meth c b D κ ad 323 (LVi b ad i) [] M := by
  obtain ⟨P, hS1, hP⟩ := tw_words  hI
  refine L_aload (j := 1) 2 C (by decide +kernel) rfl ?_
  refine L_call (index := 38) (t := 0) (c0 := 6) (As := []) C hS1 okl_6_words (by decide +kernel) rfl rfl rfl (by decide) rfl (Nat.le_of_ble_eq_true rfl) rfl (fun r N hN => ?_)
  obtain ⟨x, P', hr, hS2, hP2⟩ := hP r N hN
  rw [hr]
  show GL p l e s m below meth c b D κ ad 327 (LVi b ad i) [.int x] N
  refine L_aload (j := 2) 3 C (by decide +kernel) rfl ?_
  refine L_call (index := 41) (t := 72) (c0 := 7) (As := []) C hS2 okl_7_words (by decide +kernel) rfl rfl rfl (by decide) rfl (Nat.le_of_ble_eq_true rfl) rfl (fun r' N' h2 => ?_)
  obtain ⟨hr2, hI2⟩ := hP2 r' N' h2
  rw [hr2]
  show GL p l e s m below meth c b D κ ad 331 (LVi b ad i) [.int x, .int x] N'
  refine L_same (off := 281) (tgt := 612) C (by decide +kernel) (by decide) ?_
  exact hp N' hI2
theorem L_case6 (C : CL p s m meth c b L xs D κ ad) (hL : L ≤ 2048) (hi : i + 4 ≤ L) (hI : Inv M) (hp : ∀ M', Inv M' → GL p l e s m below meth c b D κ ad 612 (LVi b ad i) [] M') : GL p l e s m below meth c b D κ ad 336 (LVi b ad i) [] M := by
  obtain ⟨P, hS1, hP⟩ := tw_pair (xs (i + 1)) (xs (i + 2)) hI
  refine L_aload (j := 1) 2 C (by decide +kernel) rfl ?_
  refine L_arg (j := 1) (j' := 1) C hL (by omega) (by decide +kernel) (by decide +kernel) (by decide +kernel) (by decide +kernel) (by decide +kernel) (by decide +kernel) ?_
  refine L_arg (j := 2) (j' := 2) C hL (by omega) (by decide +kernel) (by decide +kernel) (by decide +kernel) (by decide +kernel) (by decide +kernel) (by decide +kernel) ?_
  refine L_call (index := 42) (t := 0) (c0 := 6) (As := [.int (xs (i + 1)), .int (xs (i + 2))]) C hS1 okl_6_pair (by decide +kernel) rfl rfl rfl (by decide) rfl (Nat.le_of_ble_eq_true rfl) rfl (fun r N hN => ?_)
  obtain ⟨x, P', hr, hS2, hP2⟩ := hP r N hN
  rw [hr]
  show GL p l e s m below meth c b D κ ad 350 (LVi b ad i) [.int x] N
  refine L_aload (j := 2) 3 C (by decide +kernel) rfl ?_
  refine L_arg (j := 1) (j' := 1) C hL (by omega) (by decide +kernel) (by decide +kernel) (by decide +kernel) (by decide +kernel) (by decide +kernel) (by decide +kernel) ?_
  refine L_arg (j := 2) (j' := 2) C hL (by omega) (by decide +kernel) (by decide +kernel) (by decide +kernel) (by decide +kernel) (by decide +kernel) (by decide +kernel) ?_
  refine L_call (index := 46) (t := 72) (c0 := 7) (As := [.int (xs (i + 1)), .int (xs (i + 2))]) C hS2 okl_7_pair (by decide +kernel) rfl rfl rfl (by decide) rfl (Nat.le_of_ble_eq_true rfl) rfl (fun r' N' h2 => ?_)
  obtain ⟨hr2, hI2⟩ := hP2 r' N' h2
  rw [hr2]
  show GL p l e s m below meth c b D κ ad 364 (LVi b ad i) [.int x, .int x] N'
  refine L_same (off := 248) (tgt := 612) C (by decide +kernel) (by decide) ?_
  exact hp N' hI2
theorem L_case7 (C : CL p s m meth c b L xs D κ ad) (hL : L ≤ 2048) (hi : i + 4 ≤ L) (hI : Inv M) (hp : ∀ M', Inv M' → GL p l e s m below meth c b D κ ad 612 (LVi b ad i) [] M') : GL p l e s m below meth c b D κ ad 369 (LVi b ad i) [] M := by
  obtain ⟨P, hS1, hP⟩ := tw_dist (xs (i + 1)) (xs (i + 2)) hI
  refine L_aload (j := 1) 2 C (by decide +kernel) rfl ?_
  refine L_arg (j := 1) (j' := 1) C hL (by omega) (by decide +kernel) (by decide +kernel) (by decide +kernel) (by decide +kernel) (by decide +kernel) (by decide +kernel) ?_
  refine L_arg (j := 2) (j' := 2) C hL (by omega) (by decide +kernel) (by decide +kernel) (by decide +kernel) (by decide +kernel) (by decide +kernel) (by decide +kernel) ?_
  refine L_call (index := 47) (t := 0) (c0 := 6) (As := [.int (xs (i + 1)), .int (xs (i + 2))]) C hS1 okl_6_distance (by decide +kernel) rfl rfl rfl (by decide) rfl (Nat.le_of_ble_eq_true rfl) rfl (fun r N hN => ?_)
  obtain ⟨x, P', hr, hS2, hP2⟩ := hP r N hN
  rw [hr]
  show GL p l e s m below meth c b D κ ad 383 (LVi b ad i) [.int x] N
  refine L_aload (j := 2) 3 C (by decide +kernel) rfl ?_
  refine L_arg (j := 1) (j' := 1) C hL (by omega) (by decide +kernel) (by decide +kernel) (by decide +kernel) (by decide +kernel) (by decide +kernel) (by decide +kernel) ?_
  refine L_arg (j := 2) (j' := 2) C hL (by omega) (by decide +kernel) (by decide +kernel) (by decide +kernel) (by decide +kernel) (by decide +kernel) (by decide +kernel) ?_
  refine L_call (index := 50) (t := 72) (c0 := 7) (As := [.int (xs (i + 1)), .int (xs (i + 2))]) C hS2 okl_7_distance (by decide +kernel) rfl rfl rfl (by decide) rfl (Nat.le_of_ble_eq_true rfl) rfl (fun r' N' h2 => ?_)
  obtain ⟨hr2, hI2⟩ := hP2 r' N' h2
  rw [hr2]
  show GL p l e s m below meth c b D κ ad 397 (LVi b ad i) [.int x, .int x] N'
  refine L_same (off := 215) (tgt := 612) C (by decide +kernel) (by decide) ?_
  exact hp N' hI2
theorem L_case8 (C : CL p s m meth c b L xs D κ ad) (hL : L ≤ 2048) (hi : i + 4 ≤ L) (hI : Inv M) (hp : ∀ M', Inv M' → GL p l e s m below meth c b D κ ad 612 (LVi b ad i) [] M') : GL p l e s m below meth c b D κ ad 402 (LVi b ad i) [] M := by
  obtain ⟨P, hS1, hP⟩ := tw_align  hI
  refine L_aload (j := 1) 2 C (by decide +kernel) rfl ?_
  refine L_call (index := 51) (t := 0) (c0 := 6) (As := []) C hS1 okl_6_align (by decide +kernel) rfl rfl rfl (by decide) rfl (Nat.le_of_ble_eq_true rfl) rfl (fun r N hN => ?_)
  obtain ⟨x, P', hr, hS2, hP2⟩ := hP r N hN
  rw [hr]
  show GL p l e s m below meth c b D κ ad 406 (LVi b ad i) [.int x] N
  refine L_aload (j := 2) 3 C (by decide +kernel) rfl ?_
  refine L_call (index := 54) (t := 72) (c0 := 7) (As := []) C hS2 okl_7_align (by decide +kernel) rfl rfl rfl (by decide) rfl (Nat.le_of_ble_eq_true rfl) rfl (fun r' N' h2 => ?_)
  obtain ⟨hr2, hI2⟩ := hP2 r' N' h2
  rw [hr2]
  show GL p l e s m below meth c b D κ ad 410 (LVi b ad i) [.int x, .int x] N'
  refine L_same (off := 202) (tgt := 612) C (by decide +kernel) (by decide) ?_
  exact hp N' hI2
theorem L_case9 (C : CL p s m meth c b L xs D κ ad) (hL : L ≤ 2048) (hi : i + 4 ≤ L) (hI : Inv M) (hp : ∀ M', Inv M' → GL p l e s m below meth c b D κ ad 612 (LVi b ad i) [] M') : GL p l e s m below meth c b D κ ad 415 (LVi b ad i) [] M := by
  obtain ⟨P, hS1, hP⟩ := tw_cols  hI
  refine L_aload (j := 1) 2 C (by decide +kernel) rfl ?_
  refine L_call (index := 55) (t := 0) (c0 := 6) (As := []) C hS1 okl_6_columns (by decide +kernel) rfl rfl rfl (by decide) rfl (Nat.le_of_ble_eq_true rfl) rfl (fun r N hN => ?_)
  obtain ⟨x, P', hr, hS2, hP2⟩ := hP r N hN
  rw [hr]
  show GL p l e s m below meth c b D κ ad 419 (LVi b ad i) [.int x] N
  refine L_aload (j := 2) 3 C (by decide +kernel) rfl ?_
  refine L_call (index := 58) (t := 72) (c0 := 7) (As := []) C hS2 okl_7_columns (by decide +kernel) rfl rfl rfl (by decide) rfl (Nat.le_of_ble_eq_true rfl) rfl (fun r' N' h2 => ?_)
  obtain ⟨hr2, hI2⟩ := hP2 r' N' h2
  rw [hr2]
  show GL p l e s m below meth c b D κ ad 423 (LVi b ad i) [.int x, .int x] N'
  refine L_same (off := 189) (tgt := 612) C (by decide +kernel) (by decide) ?_
  exact hp N' hI2
theorem L_case10 (C : CL p s m meth c b L xs D κ ad) (hL : L ≤ 2048) (hi : i + 4 ≤ L) (hI : Inv M) (hp : ∀ M', Inv M' → GL p l e s m below meth c b D κ ad 612 (LVi b ad i) [] M') : GL p l e s m below meth c b D κ ad 428 (LVi b ad i) [] M := by
  obtain ⟨P, hS1, hP⟩ := tw_at (xs (i + 1)) (xs (i + 2)) hI
  refine L_aload (j := 1) 2 C (by decide +kernel) rfl ?_
  refine L_arg (j := 1) (j' := 1) C hL (by omega) (by decide +kernel) (by decide +kernel) (by decide +kernel) (by decide +kernel) (by decide +kernel) (by decide +kernel) ?_
  refine L_arg (j := 2) (j' := 2) C hL (by omega) (by decide +kernel) (by decide +kernel) (by decide +kernel) (by decide +kernel) (by decide +kernel) (by decide +kernel) ?_
  refine L_call (index := 59) (t := 0) (c0 := 6) (As := [.int (xs (i + 1)), .int (xs (i + 2))]) C hS1 okl_6_at (by decide +kernel) rfl rfl rfl (by decide) rfl (Nat.le_of_ble_eq_true rfl) rfl (fun r N hN => ?_)
  obtain ⟨x, P', hr, hS2, hP2⟩ := hP r N hN
  rw [hr]
  show GL p l e s m below meth c b D κ ad 442 (LVi b ad i) [.int x] N
  refine L_aload (j := 2) 3 C (by decide +kernel) rfl ?_
  refine L_arg (j := 1) (j' := 1) C hL (by omega) (by decide +kernel) (by decide +kernel) (by decide +kernel) (by decide +kernel) (by decide +kernel) (by decide +kernel) ?_
  refine L_arg (j := 2) (j' := 2) C hL (by omega) (by decide +kernel) (by decide +kernel) (by decide +kernel) (by decide +kernel) (by decide +kernel) (by decide +kernel) ?_
  refine L_call (index := 63) (t := 72) (c0 := 7) (As := [.int (xs (i + 1)), .int (xs (i + 2))]) C hS2 okl_7_at (by decide +kernel) rfl rfl rfl (by decide) rfl (Nat.le_of_ble_eq_true rfl) rfl (fun r' N' h2 => ?_)
  obtain ⟨hr2, hI2⟩ := hP2 r' N' h2
  rw [hr2]
  show GL p l e s m below meth c b D κ ad 456 (LVi b ad i) [.int x, .int x] N'
  refine L_same (off := 156) (tgt := 612) C (by decide +kernel) (by decide) ?_
  exact hp N' hI2
theorem L_case11 (C : CL p s m meth c b L xs D κ ad) (hL : L ≤ 2048) (hi : i + 4 ≤ L) (hI : Inv M) (hp : ∀ M', Inv M' → GL p l e s m below meth c b D κ ad 612 (LVi b ad i) [] M') : GL p l e s m below meth c b D κ ad 461 (LVi b ad i) [] M := by
  obtain ⟨P, hS1, hP⟩ := tw_mark (xs (i + 1)) hI
  refine L_aload (j := 1) 2 C (by decide +kernel) rfl ?_
  refine L_arg (j := 1) (j' := 1) C hL (by omega) (by decide +kernel) (by decide +kernel) (by decide +kernel) (by decide +kernel) (by decide +kernel) (by decide +kernel) ?_
  refine L_call (index := 64) (t := 0) (c0 := 6) (As := [.int (xs (i + 1))]) C hS1 okl_6_mark (by decide +kernel) rfl rfl rfl (by decide) rfl (Nat.le_of_ble_eq_true rfl) rfl (fun r N hN => ?_)
  obtain ⟨x, P', hr, hS2, hP2⟩ := hP r N hN
  rw [hr]
  show GL p l e s m below meth c b D κ ad 470 (LVi b ad i) [.int x] N
  refine L_aload (j := 2) 3 C (by decide +kernel) rfl ?_
  refine L_arg (j := 1) (j' := 1) C hL (by omega) (by decide +kernel) (by decide +kernel) (by decide +kernel) (by decide +kernel) (by decide +kernel) (by decide +kernel) ?_
  refine L_call (index := 68) (t := 72) (c0 := 7) (As := [.int (xs (i + 1))]) C hS2 okl_7_mark (by decide +kernel) rfl rfl rfl (by decide) rfl (Nat.le_of_ble_eq_true rfl) rfl (fun r' N' h2 => ?_)
  obtain ⟨hr2, hI2⟩ := hP2 r' N' h2
  rw [hr2]
  show GL p l e s m below meth c b D κ ad 479 (LVi b ad i) [.int x, .int x] N'
  refine L_same (off := 133) (tgt := 612) C (by decide +kernel) (by decide) ?_
  exact hp N' hI2
theorem L_case12 (C : CL p s m meth c b L xs D κ ad) (hL : L ≤ 2048) (hi : i + 4 ≤ L) (hI : Inv M) (hp : ∀ M', Inv M' → GL p l e s m below meth c b D κ ad 612 (LVi b ad i) [] M') : GL p l e s m below meth c b D κ ad 484 (LVi b ad i) [] M := by
  obtain ⟨P, hS1, hP⟩ := tw_child (xs (i + 1)) (xs (i + 2)) hI
  refine L_aload (j := 1) 2 C (by decide +kernel) rfl ?_
  refine L_arg (j := 1) (j' := 1) C hL (by omega) (by decide +kernel) (by decide +kernel) (by decide +kernel) (by decide +kernel) (by decide +kernel) (by decide +kernel) ?_
  refine L_arg (j := 2) (j' := 2) C hL (by omega) (by decide +kernel) (by decide +kernel) (by decide +kernel) (by decide +kernel) (by decide +kernel) (by decide +kernel) ?_
  refine L_call (index := 69) (t := 0) (c0 := 6) (As := [.int (xs (i + 1)), .int (xs (i + 2))]) C hS1 okl_6_child (by decide +kernel) rfl rfl rfl (by decide) rfl (Nat.le_of_ble_eq_true rfl) rfl (fun r N hN => ?_)
  obtain ⟨x, P', hr, hS2, hP2⟩ := hP r N hN
  rw [hr]
  show GL p l e s m below meth c b D κ ad 498 (LVi b ad i) [.int x] N
  refine L_aload (j := 2) 3 C (by decide +kernel) rfl ?_
  refine L_arg (j := 1) (j' := 1) C hL (by omega) (by decide +kernel) (by decide +kernel) (by decide +kernel) (by decide +kernel) (by decide +kernel) (by decide +kernel) ?_
  refine L_arg (j := 2) (j' := 2) C hL (by omega) (by decide +kernel) (by decide +kernel) (by decide +kernel) (by decide +kernel) (by decide +kernel) (by decide +kernel) ?_
  refine L_call (index := 72) (t := 72) (c0 := 7) (As := [.int (xs (i + 1)), .int (xs (i + 2))]) C hS2 okl_7_child (by decide +kernel) rfl rfl rfl (by decide) rfl (Nat.le_of_ble_eq_true rfl) rfl (fun r' N' h2 => ?_)
  obtain ⟨hr2, hI2⟩ := hP2 r' N' h2
  rw [hr2]
  show GL p l e s m below meth c b D κ ad 512 (LVi b ad i) [.int x, .int x] N'
  refine L_same (off := 100) (tgt := 612) C (by decide +kernel) (by decide) ?_
  exact hp N' hI2
theorem L_case13 (C : CL p s m meth c b L xs D κ ad) (hL : L ≤ 2048) (hi : i + 4 ≤ L) (hI : Inv M) (hp : ∀ M', Inv M' → GL p l e s m below meth c b D κ ad 612 (LVi b ad i) [] M') : GL p l e s m below meth c b D κ ad 517 (LVi b ad i) [] M := by
  obtain ⟨P, hS1, hP⟩ := tw_worth (xs (i + 1)) hI
  refine L_aload (j := 1) 2 C (by decide +kernel) rfl ?_
  refine L_arg (j := 1) (j' := 1) C hL (by omega) (by decide +kernel) (by decide +kernel) (by decide +kernel) (by decide +kernel) (by decide +kernel) (by decide +kernel) ?_
  refine L_call (index := 73) (t := 0) (c0 := 6) (As := [.int (xs (i + 1))]) C hS1 okl_6_worth (by decide +kernel) rfl rfl rfl (by decide) rfl (Nat.le_of_ble_eq_true rfl) rfl (fun r N hN => ?_)
  obtain ⟨x, P', hr, hS2, hP2⟩ := hP r N hN
  rw [hr]
  show GL p l e s m below meth c b D κ ad 526 (LVi b ad i) [.int x] N
  refine L_aload (j := 2) 3 C (by decide +kernel) rfl ?_
  refine L_arg (j := 1) (j' := 1) C hL (by omega) (by decide +kernel) (by decide +kernel) (by decide +kernel) (by decide +kernel) (by decide +kernel) (by decide +kernel) ?_
  refine L_call (index := 77) (t := 72) (c0 := 7) (As := [.int (xs (i + 1))]) C hS2 okl_7_worth (by decide +kernel) rfl rfl rfl (by decide) rfl (Nat.le_of_ble_eq_true rfl) rfl (fun r' N' h2 => ?_)
  obtain ⟨hr2, hI2⟩ := hP2 r' N' h2
  rw [hr2]
  show GL p l e s m below meth c b D κ ad 535 (LVi b ad i) [.int x, .int x] N'
  refine L_same (off := 77) (tgt := 612) C (by decide +kernel) (by decide) ?_
  exact hp N' hI2
theorem L_case14 (C : CL p s m meth c b L xs D κ ad) (hL : L ≤ 2048) (hi : i + 4 ≤ L) (hI : Inv M) (hp : ∀ M', Inv M' → GL p l e s m below meth c b D κ ad 612 (LVi b ad i) [] M') : GL p l e s m below meth c b D κ ad 540 (LVi b ad i) [] M := by
  obtain ⟨P, hS1, hP⟩ := tw_weight (xs (i + 1)) hI
  refine L_aload (j := 1) 2 C (by decide +kernel) rfl ?_
  refine L_arg (j := 1) (j' := 1) C hL (by omega) (by decide +kernel) (by decide +kernel) (by decide +kernel) (by decide +kernel) (by decide +kernel) (by decide +kernel) ?_
  refine L_call (index := 78) (t := 0) (c0 := 6) (As := [.int (xs (i + 1))]) C hS1 okl_6_weight (by decide +kernel) rfl rfl rfl (by decide) rfl (Nat.le_of_ble_eq_true rfl) rfl (fun r N hN => ?_)
  obtain ⟨x, P', hr, hS2, hP2⟩ := hP r N hN
  rw [hr]
  show GL p l e s m below meth c b D κ ad 549 (LVi b ad i) [.int x] N
  refine L_aload (j := 2) 3 C (by decide +kernel) rfl ?_
  refine L_arg (j := 1) (j' := 1) C hL (by omega) (by decide +kernel) (by decide +kernel) (by decide +kernel) (by decide +kernel) (by decide +kernel) (by decide +kernel) ?_
  refine L_call (index := 81) (t := 72) (c0 := 7) (As := [.int (xs (i + 1))]) C hS2 okl_7_weight (by decide +kernel) rfl rfl rfl (by decide) rfl (Nat.le_of_ble_eq_true rfl) rfl (fun r' N' h2 => ?_)
  obtain ⟨hr2, hI2⟩ := hP2 r' N' h2
  rw [hr2]
  show GL p l e s m below meth c b D κ ad 558 (LVi b ad i) [.int x, .int x] N'
  refine L_same (off := 54) (tgt := 612) C (by decide +kernel) (by decide) ?_
  exact hp N' hI2
theorem L_case15 (C : CL p s m meth c b L xs D κ ad) (hL : L ≤ 2048) (hi : i + 4 ≤ L) (hI : Inv M) (hp : ∀ M', Inv M' → GL p l e s m below meth c b D κ ad 612 (LVi b ad i) [] M') : GL p l e s m below meth c b D κ ad 563 (LVi b ad i) [] M := by
  obtain ⟨P, hS1, hP⟩ := tw_total  hI
  refine L_aload (j := 1) 2 C (by decide +kernel) rfl ?_
  refine L_call (index := 82) (t := 0) (c0 := 6) (As := []) C hS1 okl_6_total (by decide +kernel) rfl rfl rfl (by decide) rfl (Nat.le_of_ble_eq_true rfl) rfl (fun r N hN => ?_)
  obtain ⟨x, P', hr, hS2, hP2⟩ := hP r N hN
  rw [hr]
  show GL p l e s m below meth c b D κ ad 567 (LVi b ad i) [.int x] N
  refine L_aload (j := 2) 3 C (by decide +kernel) rfl ?_
  refine L_call (index := 85) (t := 72) (c0 := 7) (As := []) C hS2 okl_7_total (by decide +kernel) rfl rfl rfl (by decide) rfl (Nat.le_of_ble_eq_true rfl) rfl (fun r' N' h2 => ?_)
  obtain ⟨hr2, hI2⟩ := hP2 r' N' h2
  rw [hr2]
  show GL p l e s m below meth c b D κ ad 571 (LVi b ad i) [.int x, .int x] N'
  refine L_same (off := 41) (tgt := 612) C (by decide +kernel) (by decide) ?_
  exact hp N' hI2
theorem L_case16 (C : CL p s m meth c b L xs D κ ad) (hL : L ≤ 2048) (hi : i + 4 ≤ L) (hI : Inv M) (hp : ∀ M', Inv M' → GL p l e s m below meth c b D κ ad 612 (LVi b ad i) [] M') : GL p l e s m below meth c b D κ ad 576 (LVi b ad i) [] M := by
  obtain ⟨P, hS1, hP⟩ := tw_refine (xs (i + 1)) hI
  refine L_aload (j := 1) 2 C (by decide +kernel) rfl ?_
  refine L_arg (j := 1) (j' := 1) C hL (by omega) (by decide +kernel) (by decide +kernel) (by decide +kernel) (by decide +kernel) (by decide +kernel) (by decide +kernel) ?_
  refine L_call (index := 86) (t := 0) (c0 := 6) (As := [.int (xs (i + 1))]) C hS1 okl_6_refine (by decide +kernel) rfl rfl rfl (by decide) rfl (Nat.le_of_ble_eq_true rfl) rfl (fun r N hN => ?_)
  obtain ⟨x, P', hr, hS2, hP2⟩ := hP r N hN
  rw [hr]
  show GL p l e s m below meth c b D κ ad 585 (LVi b ad i) [.int x] N
  refine L_aload (j := 2) 3 C (by decide +kernel) rfl ?_
  refine L_arg (j := 1) (j' := 1) C hL (by omega) (by decide +kernel) (by decide +kernel) (by decide +kernel) (by decide +kernel) (by decide +kernel) (by decide +kernel) ?_
  refine L_call (index := 90) (t := 72) (c0 := 7) (As := [.int (xs (i + 1))]) C hS2 okl_7_refine (by decide +kernel) rfl rfl rfl (by decide) rfl (Nat.le_of_ble_eq_true rfl) rfl (fun r' N' h2 => ?_)
  obtain ⟨hr2, hI2⟩ := hP2 r' N' h2
  rw [hr2]
  show GL p l e s m below meth c b D κ ad 594 (LVi b ad i) [.int x, .int x] N'
  refine L_same (off := 18) (tgt := 612) C (by decide +kernel) (by decide) ?_
  exact hp N' hI2
theorem L_case17 (C : CL p s m meth c b L xs D κ ad) (hL : L ≤ 2048) (hi : i + 4 ≤ L) (hI : Inv M) (hp : ∀ M', Inv M' → GL p l e s m below meth c b D κ ad 612 (LVi b ad i) [] M') : GL p l e s m below meth c b D κ ad 599 (LVi b ad i) [] M := by
  obtain ⟨P, hS1, hP⟩ := tw_polish  hI
  refine L_aload (j := 1) 2 C (by decide +kernel) rfl ?_
  refine L_call (index := 91) (t := 0) (c0 := 6) (As := []) C hS1 okl_6_polish (by decide +kernel) rfl rfl rfl (by decide) rfl (Nat.le_of_ble_eq_true rfl) rfl (fun r N hN => ?_)
  obtain ⟨x, P', hr, hS2, hP2⟩ := hP r N hN
  rw [hr]
  show GL p l e s m below meth c b D κ ad 603 (LVi b ad i) [.int x] N
  refine L_aload (j := 2) 3 C (by decide +kernel) rfl ?_
  refine L_call (index := 94) (t := 72) (c0 := 7) (As := []) C hS2 okl_7_polish (by decide +kernel) rfl rfl rfl (by decide) rfl (Nat.le_of_ble_eq_true rfl) rfl (fun r' N' h2 => ?_)
  obtain ⟨hr2, hI2⟩ := hP2 r' N' h2
  rw [hr2]
  show GL p l e s m below meth c b D κ ad 607 (LVi b ad i) [.int x, .int x] N'
  refine L_same (off := 5) (tgt := 612) C (by decide +kernel) (by decide) ?_
  exact hp N' hI2
theorem L_sw (C : CL p s m meth c b L xs D κ ad) (hL : L ≤ 2048) (hi : i + 4 ≤ L) (hI : Inv M) (hp : ∀ M', Inv M' → GL p l e s m below meth c b D κ ad 612 (LVi b ad i) [] M') : ∀ k, k < 18 → GL p l e s m below meth c b D κ ad 32 (LVi b ad i) [.int (nI k)] M := by
  intro k hk
  match k, hk with
  | 0, _ =>
    refine L_tab (lo := 0) (hi := 17) (dflt := 580) (offs := #[88, 113, 126, 169, 202, 291, 304, 337, 370, 383, 396, 429, 452, 485, 508, 531, 544, 567]) (len := 88) (off := 88) (tgt := 120) C (by decide +kernel) (by decide +kernel) (by decide +kernel) (by decide +kernel) (by decide) ?_
    exact L_case0 C hL hi hI hp
  | 1, _ =>
    refine L_tab (lo := 0) (hi := 17) (dflt := 580) (offs := #[88, 113, 126, 169, 202, 291, 304, 337, 370, 383, 396, 429, 452, 485, 508, 531, 544, 567]) (len := 88) (off := 113) (tgt := 145) C (by decide +kernel) (by decide +kernel) (by decide +kernel) (by decide +kernel) (by decide) ?_
    exact L_case1 C hL hi hI hp
  | 2, _ =>
    refine L_tab (lo := 0) (hi := 17) (dflt := 580) (offs := #[88, 113, 126, 169, 202, 291, 304, 337, 370, 383, 396, 429, 452, 485, 508, 531, 544, 567]) (len := 88) (off := 126) (tgt := 158) C (by decide +kernel) (by decide +kernel) (by decide +kernel) (by decide +kernel) (by decide) ?_
    exact L_case2 C hL hi hI hp
  | 3, _ =>
    refine L_tab (lo := 0) (hi := 17) (dflt := 580) (offs := #[88, 113, 126, 169, 202, 291, 304, 337, 370, 383, 396, 429, 452, 485, 508, 531, 544, 567]) (len := 88) (off := 169) (tgt := 201) C (by decide +kernel) (by decide +kernel) (by decide +kernel) (by decide +kernel) (by decide) ?_
    exact L_case3 C hL hi hI hp
  | 4, _ =>
    refine L_tab (lo := 0) (hi := 17) (dflt := 580) (offs := #[88, 113, 126, 169, 202, 291, 304, 337, 370, 383, 396, 429, 452, 485, 508, 531, 544, 567]) (len := 88) (off := 202) (tgt := 234) C (by decide +kernel) (by decide +kernel) (by decide +kernel) (by decide +kernel) (by decide) ?_
    exact L_case4 C hL hi hI hp
  | 5, _ =>
    refine L_tab (lo := 0) (hi := 17) (dflt := 580) (offs := #[88, 113, 126, 169, 202, 291, 304, 337, 370, 383, 396, 429, 452, 485, 508, 531, 544, 567]) (len := 88) (off := 291) (tgt := 323) C (by decide +kernel) (by decide +kernel) (by decide +kernel) (by decide +kernel) (by decide) ?_
    exact L_case5 C hL hi hI hp
  | 6, _ =>
    refine L_tab (lo := 0) (hi := 17) (dflt := 580) (offs := #[88, 113, 126, 169, 202, 291, 304, 337, 370, 383, 396, 429, 452, 485, 508, 531, 544, 567]) (len := 88) (off := 304) (tgt := 336) C (by decide +kernel) (by decide +kernel) (by decide +kernel) (by decide +kernel) (by decide) ?_
    exact L_case6 C hL hi hI hp
  | 7, _ =>
    refine L_tab (lo := 0) (hi := 17) (dflt := 580) (offs := #[88, 113, 126, 169, 202, 291, 304, 337, 370, 383, 396, 429, 452, 485, 508, 531, 544, 567]) (len := 88) (off := 337) (tgt := 369) C (by decide +kernel) (by decide +kernel) (by decide +kernel) (by decide +kernel) (by decide) ?_
    exact L_case7 C hL hi hI hp
  | 8, _ =>
    refine L_tab (lo := 0) (hi := 17) (dflt := 580) (offs := #[88, 113, 126, 169, 202, 291, 304, 337, 370, 383, 396, 429, 452, 485, 508, 531, 544, 567]) (len := 88) (off := 370) (tgt := 402) C (by decide +kernel) (by decide +kernel) (by decide +kernel) (by decide +kernel) (by decide) ?_
    exact L_case8 C hL hi hI hp
  | 9, _ =>
    refine L_tab (lo := 0) (hi := 17) (dflt := 580) (offs := #[88, 113, 126, 169, 202, 291, 304, 337, 370, 383, 396, 429, 452, 485, 508, 531, 544, 567]) (len := 88) (off := 383) (tgt := 415) C (by decide +kernel) (by decide +kernel) (by decide +kernel) (by decide +kernel) (by decide) ?_
    exact L_case9 C hL hi hI hp
  | 10, _ =>
    refine L_tab (lo := 0) (hi := 17) (dflt := 580) (offs := #[88, 113, 126, 169, 202, 291, 304, 337, 370, 383, 396, 429, 452, 485, 508, 531, 544, 567]) (len := 88) (off := 396) (tgt := 428) C (by decide +kernel) (by decide +kernel) (by decide +kernel) (by decide +kernel) (by decide) ?_
    exact L_case10 C hL hi hI hp
  | 11, _ =>
    refine L_tab (lo := 0) (hi := 17) (dflt := 580) (offs := #[88, 113, 126, 169, 202, 291, 304, 337, 370, 383, 396, 429, 452, 485, 508, 531, 544, 567]) (len := 88) (off := 429) (tgt := 461) C (by decide +kernel) (by decide +kernel) (by decide +kernel) (by decide +kernel) (by decide) ?_
    exact L_case11 C hL hi hI hp
  | 12, _ =>
    refine L_tab (lo := 0) (hi := 17) (dflt := 580) (offs := #[88, 113, 126, 169, 202, 291, 304, 337, 370, 383, 396, 429, 452, 485, 508, 531, 544, 567]) (len := 88) (off := 452) (tgt := 484) C (by decide +kernel) (by decide +kernel) (by decide +kernel) (by decide +kernel) (by decide) ?_
    exact L_case12 C hL hi hI hp
  | 13, _ =>
    refine L_tab (lo := 0) (hi := 17) (dflt := 580) (offs := #[88, 113, 126, 169, 202, 291, 304, 337, 370, 383, 396, 429, 452, 485, 508, 531, 544, 567]) (len := 88) (off := 485) (tgt := 517) C (by decide +kernel) (by decide +kernel) (by decide +kernel) (by decide +kernel) (by decide) ?_
    exact L_case13 C hL hi hI hp
  | 14, _ =>
    refine L_tab (lo := 0) (hi := 17) (dflt := 580) (offs := #[88, 113, 126, 169, 202, 291, 304, 337, 370, 383, 396, 429, 452, 485, 508, 531, 544, 567]) (len := 88) (off := 508) (tgt := 540) C (by decide +kernel) (by decide +kernel) (by decide +kernel) (by decide +kernel) (by decide) ?_
    exact L_case14 C hL hi hI hp
  | 15, _ =>
    refine L_tab (lo := 0) (hi := 17) (dflt := 580) (offs := #[88, 113, 126, 169, 202, 291, 304, 337, 370, 383, 396, 429, 452, 485, 508, 531, 544, 567]) (len := 88) (off := 531) (tgt := 563) C (by decide +kernel) (by decide +kernel) (by decide +kernel) (by decide +kernel) (by decide) ?_
    exact L_case15 C hL hi hI hp
  | 16, _ =>
    refine L_tab (lo := 0) (hi := 17) (dflt := 580) (offs := #[88, 113, 126, 169, 202, 291, 304, 337, 370, 383, 396, 429, 452, 485, 508, 531, 544, 567]) (len := 88) (off := 544) (tgt := 576) C (by decide +kernel) (by decide +kernel) (by decide +kernel) (by decide +kernel) (by decide) ?_
    exact L_case16 C hL hi hI hp
  | 17, _ =>
    refine L_tab (lo := 0) (hi := 17) (dflt := 580) (offs := #[88, 113, 126, 169, 202, 291, 304, 337, 370, 383, 396, 429, 452, 485, 508, 531, 544, 567]) (len := 88) (off := 567) (tgt := 599) C (by decide +kernel) (by decide +kernel) (by decide +kernel) (by decide +kernel) (by decide) ?_
    exact L_case17 C hL hi hI hp
  | k + 18, h => exact absurd h (by omega)
theorem and31 (x : Int32) : (∃ k, k < 18 ∧ x &&& nI 31 = nI k) ∨ (17 < (x &&& nI 31).toInt) := by
  have h0 : 0 ≤ (x &&& nI 31).toInt ∧ (x &&& nI 31).toInt ≤ 31 := by
    have e : (x &&& nI 31).toBitVec = x.toBitVec &&& 31#32 := rfl
    have le : (x.toBitVec &&& 31#32).toNat ≤ 31 := by
      rw [BitVec.toNat_and]
      exact Nat.and_le_right
    have t : (x &&& nI 31).toInt = (x.toBitVec &&& 31#32).toInt := rfl
    rw [t, BitVec.toInt_eq_toNat_of_lt (by omega)]
    omega
  rcases Int.lt_or_le 17 (x &&& nI 31).toInt with h | h
  · exact Or.inr h
  · left
    refine ⟨(x &&& nI 31).toInt.toNat, by omega, ?_⟩
    refine Int32.toInt_inj.mp ?_
    rw [nI_toInt (by omega)]
    omega
theorem L_loop (C : CL p s m meth c b L xs D κ ad) (hL : L ≤ 2048) : ∀ (d i : Nat) (M : Mem), d = L + 4 - i → i ≤ L → Inv M → GL p l e s m below meth c b D κ ad 18 (LVi b ad i) [] M := by
  intro d
  induction d using Nat.strongRecOn with
  | ind d ih =>
    intro i M hd hi hI
    refine L_iload (j := 3) 0 C (by decide +kernel) rfl ?_
    refine L_aload (j := 0) 1 C (by decide +kernel) rfl ?_
    refine L_len C (by decide +kernel) ?_
    refine L_iconst (x := 4) (v := nI 4) C (by decide +kernel) (by decide +kernel) ?_
    refine L_isub C (by decide +kernel) ?_
    have hcmp : nI L - nI 4 < nI i ↔ L < i + 4 := by
      rw [Int32.lt_iff_toInt_lt, nI_toInt (n := i) (by omega)]
      have e4 : (nI 4).toInt = 4 := by decide +kernel
      rw [ti_sub (by rw [nI_toInt (by omega)]; omega) (by rw [nI_toInt (by omega)]; omega) (by rw [e4]; omega) (by rw [e4]; omega), nI_toInt (n := L) (by omega), e4]
      omega
    refine L_gt (off := 595) (tgt := 618) C (by decide +kernel) (by decide) (fun z => ?_) (fun z => ?_)
    · exact L_end C (by decide +kernel) (by decide +kernel)
    · have hle : i + 4 ≤ L := Nat.le_of_not_lt (fun h => z (hcmp.mpr h))
      refine L_aload (j := 0) 1 C (by decide +kernel) rfl ?_
      refine L_iload (j := 3) 0 C (by decide +kernel) rfl ?_
      refine L_read (j := i) C (by decide +kernel) rfl (by omega) hL ?_
      refine L_bipush (x := 31) (v := nI 31) C (by decide +kernel) (by decide +kernel) ?_
      refine L_iand C (by decide +kernel) ?_
      have hnext : ∀ M', Inv M' → GL p l e s m below meth c b D κ ad 612 (LVi b ad i) [] M' := fun M' hI' => by
        refine L_iinc (i := 0) (j := 3) (d := 4) (v := nI 4) (lv' := [(3, .int (nI i + nI 4)), (0, .ref b), (1, .ref (ad 0)), (2, .ref (ad 72))]) C (by decide +kernel) rfl (by decide +kernel) (by decide) rfl ?_
        rw [nI_add]
        refine L_goto (off := -597) (tgt := 18) C (by decide +kernel) (by decide) ?_
        exact ih (d - 4) (by omega) (i + 4) M' (by omega) (by omega) hI'
      rcases and31 (xs i) with ⟨k, hk, hx⟩ | hx
      · rw [hx]
        exact L_sw C hL hle hI hnext k hk
      · refine L_tabO (lo := 0) (hi := 17) (dflt := 580) (offs := #[88, 113, 126, 169, 202, 291, 304, 337, 370, 383, 396, 429, 452, 485, 508, 531, 544, 567]) (len := 88) (tgt := 612) C (by decide +kernel) (Or.inr hx) (by decide) ?_
        exact hnext M hI
end LC
