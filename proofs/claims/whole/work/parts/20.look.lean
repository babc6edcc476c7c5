/-! Merger: look, fill -/
theorem plc_lt {a b p q : Nat} (ha : a ≤ p) (hb : b ≤ q) (h : (p + 1) * (q + 1) ≤ 925) : a * (q + 1) + b < 925 := by
  have h1 := Nat.mul_le_mul_right (q + 1) ha
  rw [Nat.add_mul] at h
  omega
/-- the worth with a BOTH, a LEFT, a RIGHT next, out of the tables (tags 12 to 14) -/
def lkB (M : Mem) (p q i j : Nat) : Int32 := if i < p ∧ j < q then M 12 ((i + 1) * (q + 1) + (j + 1)) + mtF M i j else -1000000000
def lkL (M : Mem) (p q i j : Nat) : Int32 := if i < p then M 13 ((i + 1) * (q + 1) + j) - M 2 2 * M 7 i * M 8 2 else -1000000000
def lkR (M : Mem) (p q i j : Nat) : Int32 := if j < q then M 14 (i * (q + 1) + (j + 1)) - M 2 2 * M 10 j * M 5 2 else -1000000000
def lookP (M : Mem) (p q i j : Nat) : Option Value → Mem → Prop := fun r N => r = none ∧ N 4 7 = lkB M p q i j ∧ N 4 8 = lkL M p q i j ∧ N 4 9 = lkR M p q i j ∧ N 4 5 = M 4 5 ∧ N 4 6 = M 4 6 ∧ ∀ z, z ≠ 4 → N z = M z
/-- the sides are p and q columns wide, and the tables have room -/
def mrg (M : Mem) (p q : Nat) : Prop := M 5 3 = nI p ∧ M 8 3 = nI q ∧ p ≤ 48 ∧ q ≤ 48 ∧ (p + 1) * (q + 1) ≤ 925
theorem mtF_congr {M N : Mem} {i j : Nat} (h6 : N 6 = M 6) (h9 : N 9 = M 9) (h3 : N 3 = M 3) : mtF N i j = mtF M i j := by
  unfold mtF mtF2; rw [h6, h9, h3]
theorem l_look11 {M N : Mem} {p q i j : Nat} (hm : mrg M p q) (hi : i ≤ p) (hj : j ≤ q) (ci : i < p) (cj : j < q) (h7 : N 4 7 = -1000000000) (h8 : N 4 8 = -1000000000) (h9 : N 4 9 = -1000000000) (h45 : N 4 5 = M 4 5) (h46 : N 4 6 = M 4 6) (h0 : ∀ z, z ≠ 4 → N z = M z) : G mX1_look 53 [some (.ref 4), some (.int (nI i)), some (.int (nI j)), some (.int (nI 1)), some (.int (nI 1))] [] N (lookP M p q i j) := by
  obtain ⟨h1, h2, h3, h4, h5⟩ := hm
  have hq : N 8 3 = nI q := by rw [h0 8 (by decide)]; exact h2
  refine blk 1 [(.iload_n 3, 0, 0, 0)] [] (by decide +kernel) rfl (pc' := 54) (ls' := [some (.ref 4), some (.int (nI i)), some (.int (nI j)), some (.int (nI 1)), some (.int (nI 1))]) (st' := [.int (nI 1)]) (M' := N) rfl ⟨trivial, trivial⟩ ?_
  refine g_if_eq (off := 36) (tgt := 90) (by decide +kernel) (by decide) (fun c1 => ?_) (fun c1 => ?_)
  · exact absurd c1 (by decide +kernel)
  · refine blk 1 [(.iload 4, 0, 0, 0)] [] (by decide +kernel) rfl (pc' := 59) (ls' := [some (.ref 4), some (.int (nI i)), some (.int (nI j)), some (.int (nI 1)), some (.int (nI 1))]) (st' := [.int (nI 1)]) (M' := N) rfl ⟨trivial, trivial⟩ ?_
    refine g_if_eq (off := 31) (tgt := 90) (by decide +kernel) (by decide) (fun c2 => ?_) (fun c2 => ?_)
    · exact absurd c2 (by decide +kernel)
    · refine blk 1 [(.aload_n 0, 0, 0, 0), (.aload_n 0, 0, 0, 0), (.getfield 23, 1, 3, 0), (.iconst 0, 0, 0, (nI 0)), (.aaload, 0, 0, 0), (.aload_n 0, 0, 0, 0), (.iload_n 1, 0, 0, 0), (.iconst 1, 0, 0, (nI 1)), (.iadd, 0, 0, 0), (.iload_n 2, 0, 0, 0), (.iconst 1, 0, 0, (nI 1)), (.iadd, 0, 0, 0)] [0] (by decide +kernel) rfl (pc' := 76) (ls' := [some (.ref 4), some (.int (nI i)), some (.int (nI j)), some (.int (nI 1)), some (.int (nI 1))]) (st' := [.int ((nI j) + (nI 1)), .int ((nI i) + (nI 1)), .ref 4, .ref 12, .ref 4]) (M' := N) rfl ⟨trivial, trivial, rfl, trivial, ⟨rfl, (by decide)⟩, trivial, trivial, trivial, trivial, trivial, trivial, trivial, trivial⟩ ?_
      refine g_callV (s_place N _ _) ok_X1_look_X1_place (by decide +kernel) rfl (c := 1) rfl (by decide) rfl (Nat.le_of_ble_eq_true rfl) (fun r M' h => ?_) rfl
      obtain ⟨hr, hM⟩ := h
      rw [hr, hM]
      show G _ 79 [some (.ref 4), some (.int (nI i)), some (.int (nI j)), some (.int (nI 1)), some (.int (nI 1))] [.int (((nI i) + (nI 1)) * (N 8 3 + nI 1) + ((nI j) + (nI 1))), .ref 12, .ref 4] N _
      refine blk 1 [(.iaload, 0, 0, 0), (.aload_n 0, 0, 0, 0), (.iload_n 1, 0, 0, 0), (.iload_n 2, 0, 0, 0)] [(i + 1) * (q + 1) + (j + 1)] (by decide +kernel) rfl (pc' := 83) (ls' := [some (.ref 4), some (.int (nI i)), some (.int (nI j)), some (.int (nI 1)), some (.int (nI 1))]) (st' := [.int (nI j), .int (nI i), .ref 4, .int (N 12 ((i + 1) * (q + 1) + (j + 1))), .ref 4]) (M' := N) rfl ⟨⟨(by simp only [hq, nI_add, pk_mul, nI_s1, Nat.reduceAdd, Nat.reduceMul]), (plc_lt (p := p) (by omega) (by omega) h5)⟩, trivial, trivial, trivial, trivial⟩ ?_
      refine g_callV (s_match N (i := i) (j := j) (by omega) (by omega)) ok_X1_look_X1_match (by decide +kernel) rfl (c := 1) rfl (by decide) rfl (Nat.le_of_ble_eq_true rfl) (fun r M' h => ?_) rfl
      obtain ⟨hr, hM⟩ := h
      rw [hr, hM]
      show G _ 86 [some (.ref 4), some (.int (nI i)), some (.int (nI j)), some (.int (nI 1)), some (.int (nI 1))] [.int (mtF N i j), .int (N 12 ((i + 1) * (q + 1) + (j + 1))), .ref 4] N _
      refine blk 1 [(.iadd, 0, 0, 0), (.putfield 84, 1, 7, 0), (.iload_n 3, 0, 0, 0)] [] (by decide +kernel) rfl (pc' := 91) (ls' := [some (.ref 4), some (.int (nI i)), some (.int (nI j)), some (.int (nI 1)), some (.int (nI 1))]) (st' := [.int (nI 1)]) (M' := stm N 4 7 ((N 12 ((i + 1) * (q + 1) + (j + 1))) + (mtF N i j))) rfl ⟨trivial, rfl, trivial, trivial⟩ ?_
      refine g_if_eq (off := 48) (tgt := 139) (by decide +kernel) (by decide) (fun c3 => ?_) (fun c3 => ?_)
      · exact absurd c3 (by decide +kernel)
      · refine blk 1 [(.aload_n 0, 0, 0, 0), (.aload_n 0, 0, 0, 0), (.getfield 23, 1, 3, 0), (.iconst 1, 0, 0, (nI 1)), (.aaload, 0, 0, 0), (.aload_n 0, 0, 0, 0), (.iload_n 1, 0, 0, 0), (.iconst 1, 0, 0, (nI 1)), (.iadd, 0, 0, 0), (.iload_n 2, 0, 0, 0)] [1] (by decide +kernel) rfl (pc' := 106) (ls' := [some (.ref 4), some (.int (nI i)), some (.int (nI j)), some (.int (nI 1)), some (.int (nI 1))]) (st' := [.int (nI j), .int ((nI i) + (nI 1)), .ref 4, .ref 13, .ref 4]) (M' := stm N 4 7 ((N 12 ((i + 1) * (q + 1) + (j + 1))) + (mtF N i j))) rfl ⟨trivial, trivial, rfl, trivial, ⟨rfl, (by decide)⟩, trivial, trivial, trivial, trivial, trivial, trivial⟩ ?_
        refine g_callV (s_place (stm N 4 7 ((N 12 ((i + 1) * (q + 1) + (j + 1))) + (mtF N i j))) _ _) ok_X1_look_X1_place (by decide +kernel) rfl (c := 1) rfl (by decide) rfl (Nat.le_of_ble_eq_true rfl) (fun r M' h => ?_) rfl
        obtain ⟨hr, hM⟩ := h
        rw [hr, hM]
        show G _ 109 [some (.ref 4), some (.int (nI i)), some (.int (nI j)), some (.int (nI 1)), some (.int (nI 1))] [.int (((nI i) + (nI 1)) * (N 8 3 + nI 1) + (nI j)), .ref 13, .ref 4] (stm N 4 7 ((N 12 ((i + 1) * (q + 1) + (j + 1))) + (mtF N i j))) _
        refine blk 1 [(.iaload, 0, 0, 0), (.aload_n 0, 0, 0, 0), (.getfield 30, 1, 0, 0), (.getfield 96, 0, 2, 0), (.aload_n 0, 0, 0, 0), (.getfield 12, 1, 1, 0), (.getfield 99, 4, 1, 0), (.iload_n 1, 0, 0, 0), (.iaload, 0, 0, 0), (.imul, 0, 0, 0), (.aload_n 0, 0, 0, 0), (.getfield 18, 1, 2, 0), (.getfield 44, 4, 2, 0), (.imul, 0, 0, 0), (.isub, 0, 0, 0), (.putfield 87, 1, 8, 0), (.iload 4, 0, 0, 0)] [(i + 1) * (q + 1) + j, i] (by decide +kernel) rfl (pc' := 141) (ls' := [some (.ref 4), some (.int (nI i)), some (.int (nI j)), some (.int (nI 1)), some (.int (nI 1))]) (st' := [.int (nI 1)]) (M' := stm (stm N 4 7 ((N 12 ((i + 1) * (q + 1) + (j + 1))) + (mtF N i j))) 4 8 ((N 13 ((i + 1) * (q + 1) + j)) - (((N 2 2) * (N 7 i)) * (N 8 2)))) rfl ⟨⟨(by simp only [hq, nI_add, pk_mul, nI_s1, Nat.reduceAdd, Nat.reduceMul]), (plc_lt (p := p) (by omega) (by omega) h5)⟩, trivial, rfl, rfl, trivial, rfl, rfl, trivial, ⟨rfl, (by show _ < 48; omega)⟩, trivial, trivial, rfl, rfl, trivial, trivial, rfl, trivial, trivial⟩ ?_
        refine g_if_eq (off := 48) (tgt := 189) (by decide +kernel) (by decide) (fun c4 => ?_) (fun c4 => ?_)
        · exact absurd c4 (by decide +kernel)
        · refine blk 1 [(.aload_n 0, 0, 0, 0), (.aload_n 0, 0, 0, 0), (.getfield 23, 1, 3, 0), (.iconst 2, 0, 0, (nI 2)), (.aaload, 0, 0, 0), (.aload_n 0, 0, 0, 0), (.iload_n 1, 0, 0, 0), (.iload_n 2, 0, 0, 0), (.iconst 1, 0, 0, (nI 1)), (.iadd, 0, 0, 0)] [2] (by decide +kernel) rfl (pc' := 156) (ls' := [some (.ref 4), some (.int (nI i)), some (.int (nI j)), some (.int (nI 1)), some (.int (nI 1))]) (st' := [.int ((nI j) + (nI 1)), .int (nI i), .ref 4, .ref 14, .ref 4]) (M' := stm (stm N 4 7 ((N 12 ((i + 1) * (q + 1) + (j + 1))) + (mtF N i j))) 4 8 ((N 13 ((i + 1) * (q + 1) + j)) - (((N 2 2) * (N 7 i)) * (N 8 2)))) rfl ⟨trivial, trivial, rfl, trivial, ⟨rfl, (by decide)⟩, trivial, trivial, trivial, trivial, trivial, trivial⟩ ?_
          refine g_callV (s_place (stm (stm N 4 7 ((N 12 ((i + 1) * (q + 1) + (j + 1))) + (mtF N i j))) 4 8 ((N 13 ((i + 1) * (q + 1) + j)) - (((N 2 2) * (N 7 i)) * (N 8 2)))) _ _) ok_X1_look_X1_place (by decide +kernel) rfl (c := 1) rfl (by decide) rfl (Nat.le_of_ble_eq_true rfl) (fun r M' h => ?_) rfl
          obtain ⟨hr, hM⟩ := h
          rw [hr, hM]
          show G _ 159 [some (.ref 4), some (.int (nI i)), some (.int (nI j)), some (.int (nI 1)), some (.int (nI 1))] [.int ((nI i) * (N 8 3 + nI 1) + ((nI j) + (nI 1))), .ref 14, .ref 4] (stm (stm N 4 7 ((N 12 ((i + 1) * (q + 1) + (j + 1))) + (mtF N i j))) 4 8 ((N 13 ((i + 1) * (q + 1) + j)) - (((N 2 2) * (N 7 i)) * (N 8 2)))) _
          refine blk 1 [(.iaload, 0, 0, 0), (.aload_n 0, 0, 0, 0), (.getfield 30, 1, 0, 0), (.getfield 96, 0, 2, 0), (.aload_n 0, 0, 0, 0), (.getfield 18, 1, 2, 0), (.getfield 99, 4, 1, 0), (.iload_n 2, 0, 0, 0), (.iaload, 0, 0, 0), (.imul, 0, 0, 0), (.aload_n 0, 0, 0, 0), (.getfield 12, 1, 1, 0), (.getfield 44, 4, 2, 0), (.imul, 0, 0, 0), (.isub, 0, 0, 0), (.putfield 90, 1, 9, 0)] [i * (q + 1) + (j + 1), j] (by decide +kernel) rfl (pc' := 189) (ls' := [some (.ref 4), some (.int (nI i)), some (.int (nI j)), some (.int (nI 1)), some (.int (nI 1))]) (st' := []) (M' := stm (stm (stm N 4 7 ((N 12 ((i + 1) * (q + 1) + (j + 1))) + (mtF N i j))) 4 8 ((N 13 ((i + 1) * (q + 1) + j)) - (((N 2 2) * (N 7 i)) * (N 8 2)))) 4 9 ((N 14 (i * (q + 1) + (j + 1))) - (((N 2 2) * (N 10 j)) * (N 5 2)))) rfl ⟨⟨(by simp only [hq, nI_add, pk_mul, nI_s1, Nat.reduceAdd, Nat.reduceMul]), (plc_lt (p := p) (by omega) (by omega) h5)⟩, trivial, rfl, rfl, trivial, rfl, rfl, trivial, ⟨rfl, (by show _ < 48; omega)⟩, trivial, trivial, rfl, rfl, trivial, trivial, rfl, trivial⟩ ?_
          refine g_return (by decide +kernel) rfl ⟨rfl, ?_, ?_, ?_, ?_, ?_, fun z hz => ?_⟩
          · rw [lkB, if_pos ⟨ci, cj⟩]; show N 12 _ + mtF N i j = _; rw [h0 12 (by decide), mtF_congr (h0 6 (by decide)) (h0 9 (by decide)) (h0 3 (by decide))]
          · rw [lkL, if_pos ci]; show N 13 _ - N 2 2 * N 7 i * N 8 2 = _; rw [h0 13 (by decide), h0 2 (by decide), h0 7 (by decide), h0 8 (by decide)]
          · rw [lkR, if_pos cj]; show N 14 _ - N 2 2 * N 10 j * N 5 2 = _; rw [h0 14 (by decide), h0 2 (by decide), h0 10 (by decide), h0 5 (by decide)]
          · exact h45
          · exact h46
          · rw [stm_ne hz, stm_ne hz, stm_ne hz, h0 z hz]
theorem l_look10 {M N : Mem} {p q i j : Nat} (hm : mrg M p q) (hi : i ≤ p) (hj : j ≤ q) (ci : i < p) (cj : ¬ j < q) (h7 : N 4 7 = -1000000000) (h8 : N 4 8 = -1000000000) (h9 : N 4 9 = -1000000000) (h45 : N 4 5 = M 4 5) (h46 : N 4 6 = M 4 6) (h0 : ∀ z, z ≠ 4 → N z = M z) : G mX1_look 53 [some (.ref 4), some (.int (nI i)), some (.int (nI j)), some (.int (nI 1)), some (.int (nI 0))] [] N (lookP M p q i j) := by
  obtain ⟨h1, h2, h3, h4, h5⟩ := hm
  have hq : N 8 3 = nI q := by rw [h0 8 (by decide)]; exact h2
  refine blk 1 [(.iload_n 3, 0, 0, 0)] [] (by decide +kernel) rfl (pc' := 54) (ls' := [some (.ref 4), some (.int (nI i)), some (.int (nI j)), some (.int (nI 1)), some (.int (nI 0))]) (st' := [.int (nI 1)]) (M' := N) rfl ⟨trivial, trivial⟩ ?_
  refine g_if_eq (off := 36) (tgt := 90) (by decide +kernel) (by decide) (fun c1 => ?_) (fun c1 => ?_)
  · exact absurd c1 (by decide +kernel)
  · refine blk 1 [(.iload 4, 0, 0, 0)] [] (by decide +kernel) rfl (pc' := 59) (ls' := [some (.ref 4), some (.int (nI i)), some (.int (nI j)), some (.int (nI 1)), some (.int (nI 0))]) (st' := [.int (nI 0)]) (M' := N) rfl ⟨trivial, trivial⟩ ?_
    refine g_if_eq (off := 31) (tgt := 90) (by decide +kernel) (by decide) (fun c2 => ?_) (fun c2 => ?_)
    · refine blk 1 [(.iload_n 3, 0, 0, 0)] [] (by decide +kernel) rfl (pc' := 91) (ls' := [some (.ref 4), some (.int (nI i)), some (.int (nI j)), some (.int (nI 1)), some (.int (nI 0))]) (st' := [.int (nI 1)]) (M' := N) rfl ⟨trivial, trivial⟩ ?_
      refine g_if_eq (off := 48) (tgt := 139) (by decide +kernel) (by decide) (fun c3 => ?_) (fun c3 => ?_)
      · exact absurd c3 (by decide +kernel)
      · refine blk 1 [(.aload_n 0, 0, 0, 0), (.aload_n 0, 0, 0, 0), (.getfield 23, 1, 3, 0), (.iconst 1, 0, 0, (nI 1)), (.aaload, 0, 0, 0), (.aload_n 0, 0, 0, 0), (.iload_n 1, 0, 0, 0), (.iconst 1, 0, 0, (nI 1)), (.iadd, 0, 0, 0), (.iload_n 2, 0, 0, 0)] [1] (by decide +kernel) rfl (pc' := 106) (ls' := [some (.ref 4), some (.int (nI i)), some (.int (nI j)), some (.int (nI 1)), some (.int (nI 0))]) (st' := [.int (nI j), .int ((nI i) + (nI 1)), .ref 4, .ref 13, .ref 4]) (M' := N) rfl ⟨trivial, trivial, rfl, trivial, ⟨rfl, (by decide)⟩, trivial, trivial, trivial, trivial, trivial, trivial⟩ ?_
        refine g_callV (s_place N _ _) ok_X1_look_X1_place (by decide +kernel) rfl (c := 1) rfl (by decide) rfl (Nat.le_of_ble_eq_true rfl) (fun r M' h => ?_) rfl
        obtain ⟨hr, hM⟩ := h
        rw [hr, hM]
        show G _ 109 [some (.ref 4), some (.int (nI i)), some (.int (nI j)), some (.int (nI 1)), some (.int (nI 0))] [.int (((nI i) + (nI 1)) * (N 8 3 + nI 1) + (nI j)), .ref 13, .ref 4] N _
        refine blk 1 [(.iaload, 0, 0, 0), (.aload_n 0, 0, 0, 0), (.getfield 30, 1, 0, 0), (.getfield 96, 0, 2, 0), (.aload_n 0, 0, 0, 0), (.getfield 12, 1, 1, 0), (.getfield 99, 4, 1, 0), (.iload_n 1, 0, 0, 0), (.iaload, 0, 0, 0), (.imul, 0, 0, 0), (.aload_n 0, 0, 0, 0), (.getfield 18, 1, 2, 0), (.getfield 44, 4, 2, 0), (.imul, 0, 0, 0), (.isub, 0, 0, 0), (.putfield 87, 1, 8, 0), (.iload 4, 0, 0, 0)] [(i + 1) * (q + 1) + j, i] (by decide +kernel) rfl (pc' := 141) (ls' := [some (.ref 4), some (.int (nI i)), some (.int (nI j)), some (.int (nI 1)), some (.int (nI 0))]) (st' := [.int (nI 0)]) (M' := stm N 4 8 ((N 13 ((i + 1) * (q + 1) + j)) - (((N 2 2) * (N 7 i)) * (N 8 2)))) rfl ⟨⟨(by simp only [hq, nI_add, pk_mul, nI_s1, Nat.reduceAdd, Nat.reduceMul]), (plc_lt (p := p) (by omega) (by omega) h5)⟩, trivial, rfl, rfl, trivial, rfl, rfl, trivial, ⟨rfl, (by show _ < 48; omega)⟩, trivial, trivial, rfl, rfl, trivial, trivial, rfl, trivial, trivial⟩ ?_
        refine g_if_eq (off := 48) (tgt := 189) (by decide +kernel) (by decide) (fun c4 => ?_) (fun c4 => ?_)
        · refine g_return (by decide +kernel) rfl ⟨rfl, ?_, ?_, ?_, ?_, ?_, fun z hz => ?_⟩
          · rw [lkB, if_neg (fun z => by omega)]; exact h7
          · rw [lkL, if_pos ci]; show N 13 _ - N 2 2 * N 7 i * N 8 2 = _; rw [h0 13 (by decide), h0 2 (by decide), h0 7 (by decide), h0 8 (by decide)]
          · rw [lkR, if_neg (by omega)]; exact h9
          · exact h45
          · exact h46
          · rw [stm_ne hz, h0 z hz]
        · exact absurd (by decide +kernel) c4
    · exact absurd (by decide +kernel) c2
theorem l_look01 {M N : Mem} {p q i j : Nat} (hm : mrg M p q) (hi : i ≤ p) (hj : j ≤ q) (ci : ¬ i < p) (cj : j < q) (h7 : N 4 7 = -1000000000) (h8 : N 4 8 = -1000000000) (h9 : N 4 9 = -1000000000) (h45 : N 4 5 = M 4 5) (h46 : N 4 6 = M 4 6) (h0 : ∀ z, z ≠ 4 → N z = M z) : G mX1_look 53 [some (.ref 4), some (.int (nI i)), some (.int (nI j)), some (.int (nI 0)), some (.int (nI 1))] [] N (lookP M p q i j) := by
  obtain ⟨h1, h2, h3, h4, h5⟩ := hm
  have hq : N 8 3 = nI q := by rw [h0 8 (by decide)]; exact h2
  refine blk 1 [(.iload_n 3, 0, 0, 0)] [] (by decide +kernel) rfl (pc' := 54) (ls' := [some (.ref 4), some (.int (nI i)), some (.int (nI j)), some (.int (nI 0)), some (.int (nI 1))]) (st' := [.int (nI 0)]) (M' := N) rfl ⟨trivial, trivial⟩ ?_
  refine g_if_eq (off := 36) (tgt := 90) (by decide +kernel) (by decide) (fun c1 => ?_) (fun c1 => ?_)
  · refine blk 1 [(.iload_n 3, 0, 0, 0)] [] (by decide +kernel) rfl (pc' := 91) (ls' := [some (.ref 4), some (.int (nI i)), some (.int (nI j)), some (.int (nI 0)), some (.int (nI 1))]) (st' := [.int (nI 0)]) (M' := N) rfl ⟨trivial, trivial⟩ ?_
    refine g_if_eq (off := 48) (tgt := 139) (by decide +kernel) (by decide) (fun c2 => ?_) (fun c2 => ?_)
    · refine blk 1 [(.iload 4, 0, 0, 0)] [] (by decide +kernel) rfl (pc' := 141) (ls' := [some (.ref 4), some (.int (nI i)), some (.int (nI j)), some (.int (nI 0)), some (.int (nI 1))]) (st' := [.int (nI 1)]) (M' := N) rfl ⟨trivial, trivial⟩ ?_
      refine g_if_eq (off := 48) (tgt := 189) (by decide +kernel) (by decide) (fun c3 => ?_) (fun c3 => ?_)
      · exact absurd c3 (by decide +kernel)
      · refine blk 1 [(.aload_n 0, 0, 0, 0), (.aload_n 0, 0, 0, 0), (.getfield 23, 1, 3, 0), (.iconst 2, 0, 0, (nI 2)), (.aaload, 0, 0, 0), (.aload_n 0, 0, 0, 0), (.iload_n 1, 0, 0, 0), (.iload_n 2, 0, 0, 0), (.iconst 1, 0, 0, (nI 1)), (.iadd, 0, 0, 0)] [2] (by decide +kernel) rfl (pc' := 156) (ls' := [some (.ref 4), some (.int (nI i)), some (.int (nI j)), some (.int (nI 0)), some (.int (nI 1))]) (st' := [.int ((nI j) + (nI 1)), .int (nI i), .ref 4, .ref 14, .ref 4]) (M' := N) rfl ⟨trivial, trivial, rfl, trivial, ⟨rfl, (by decide)⟩, trivial, trivial, trivial, trivial, trivial, trivial⟩ ?_
        refine g_callV (s_place N _ _) ok_X1_look_X1_place (by decide +kernel) rfl (c := 1) rfl (by decide) rfl (Nat.le_of_ble_eq_true rfl) (fun r M' h => ?_) rfl
        obtain ⟨hr, hM⟩ := h
        rw [hr, hM]
        show G _ 159 [some (.ref 4), some (.int (nI i)), some (.int (nI j)), some (.int (nI 0)), some (.int (nI 1))] [.int ((nI i) * (N 8 3 + nI 1) + ((nI j) + (nI 1))), .ref 14, .ref 4] N _
        refine blk 1 [(.iaload, 0, 0, 0), (.aload_n 0, 0, 0, 0), (.getfield 30, 1, 0, 0), (.getfield 96, 0, 2, 0), (.aload_n 0, 0, 0, 0), (.getfield 18, 1, 2, 0), (.getfield 99, 4, 1, 0), (.iload_n 2, 0, 0, 0), (.iaload, 0, 0, 0), (.imul, 0, 0, 0), (.aload_n 0, 0, 0, 0), (.getfield 12, 1, 1, 0), (.getfield 44, 4, 2, 0), (.imul, 0, 0, 0), (.isub, 0, 0, 0), (.putfield 90, 1, 9, 0)] [i * (q + 1) + (j + 1), j] (by decide +kernel) rfl (pc' := 189) (ls' := [some (.ref 4), some (.int (nI i)), some (.int (nI j)), some (.int (nI 0)), some (.int (nI 1))]) (st' := []) (M' := stm N 4 9 ((N 14 (i * (q + 1) + (j + 1))) - (((N 2 2) * (N 10 j)) * (N 5 2)))) rfl ⟨⟨(by simp only [hq, nI_add, pk_mul, nI_s1, Nat.reduceAdd, Nat.reduceMul]), (plc_lt (p := p) (by omega) (by omega) h5)⟩, trivial, rfl, rfl, trivial, rfl, rfl, trivial, ⟨rfl, (by show _ < 48; omega)⟩, trivial, trivial, rfl, rfl, trivial, trivial, rfl, trivial⟩ ?_
        refine g_return (by decide +kernel) rfl ⟨rfl, ?_, ?_, ?_, ?_, ?_, fun z hz => ?_⟩
        · rw [lkB, if_neg (fun z => by omega)]; exact h7
        · rw [lkL, if_neg (by omega)]; exact h8
        · rw [lkR, if_pos cj]; show N 14 _ - N 2 2 * N 10 j * N 5 2 = _; rw [h0 14 (by decide), h0 2 (by decide), h0 10 (by decide), h0 5 (by decide)]
        · exact h45
        · exact h46
        · rw [stm_ne hz, h0 z hz]
    · exact absurd (by decide +kernel) c2
  · exact absurd (by decide +kernel) c1
theorem l_look00 {M N : Mem} {p q i j : Nat} (hm : mrg M p q) (hi : i ≤ p) (hj : j ≤ q) (ci : ¬ i < p) (cj : ¬ j < q) (h7 : N 4 7 = -1000000000) (h8 : N 4 8 = -1000000000) (h9 : N 4 9 = -1000000000) (h45 : N 4 5 = M 4 5) (h46 : N 4 6 = M 4 6) (h0 : ∀ z, z ≠ 4 → N z = M z) : G mX1_look 53 [some (.ref 4), some (.int (nI i)), some (.int (nI j)), some (.int (nI 0)), some (.int (nI 0))] [] N (lookP M p q i j) := by
  obtain ⟨h1, h2, h3, h4, h5⟩ := hm
  have hq : N 8 3 = nI q := by rw [h0 8 (by decide)]; exact h2
  refine blk 1 [(.iload_n 3, 0, 0, 0)] [] (by decide +kernel) rfl (pc' := 54) (ls' := [some (.ref 4), some (.int (nI i)), some (.int (nI j)), some (.int (nI 0)), some (.int (nI 0))]) (st' := [.int (nI 0)]) (M' := N) rfl ⟨trivial, trivial⟩ ?_
  refine g_if_eq (off := 36) (tgt := 90) (by decide +kernel) (by decide) (fun c1 => ?_) (fun c1 => ?_)
  · refine blk 1 [(.iload_n 3, 0, 0, 0)] [] (by decide +kernel) rfl (pc' := 91) (ls' := [some (.ref 4), some (.int (nI i)), some (.int (nI j)), some (.int (nI 0)), some (.int (nI 0))]) (st' := [.int (nI 0)]) (M' := N) rfl ⟨trivial, trivial⟩ ?_
    refine g_if_eq (off := 48) (tgt := 139) (by decide +kernel) (by decide) (fun c2 => ?_) (fun c2 => ?_)
    · refine blk 1 [(.iload 4, 0, 0, 0)] [] (by decide +kernel) rfl (pc' := 141) (ls' := [some (.ref 4), some (.int (nI i)), some (.int (nI j)), some (.int (nI 0)), some (.int (nI 0))]) (st' := [.int (nI 0)]) (M' := N) rfl ⟨trivial, trivial⟩ ?_
      refine g_if_eq (off := 48) (tgt := 189) (by decide +kernel) (by decide) (fun c3 => ?_) (fun c3 => ?_)
      · refine g_return (by decide +kernel) rfl ⟨rfl, ?_, ?_, ?_, ?_, ?_, fun z hz => ?_⟩
        · rw [lkB, if_neg (fun z => by omega)]; exact h7
        · rw [lkL, if_neg (by omega)]; exact h8
        · rw [lkR, if_neg (by omega)]; exact h9
        · exact h45
        · exact h46
        · rw [h0 z hz]
      · exact absurd (by decide +kernel) c3
    · exact absurd (by decide +kernel) c2
  · exact absurd (by decide +kernel) c1
theorem s_look (M : Mem) {p q i j : Nat} (hm : mrg M p q) (hi : i ≤ p) (hj : j ≤ q) : Spec mX1_look [.ref 4, .int (nI i), .int (nI j)] M (lookP M p q i j) := by
  have ⟨h1, h2, h3, h4, h5⟩ := hm
  refine Spec.of (by decide) (by simp [Value.category]) (Nat.le_of_ble_eq_true rfl) ?_
  refine blk 1 [(.iload_n 1, 0, 0, 0), (.aload_n 0, 0, 0, 0), (.getfield 12, 1, 1, 0), (.getfield 50, 4, 3, 0)] [] (by decide +kernel) rfl (pc' := 8) (ls' := [some (.ref 4), some (.int (nI i)), some (.int (nI j)), none, none]) (st' := [.int (M 5 3), .int (nI i)]) (M' := M) rfl ⟨trivial, trivial, rfl, rfl, trivial⟩ ?_
  refine g_icmp_ge (off := 7) (tgt := 15) (by decide +kernel) (by decide) (fun c1 => ?_) (fun c1 => ?_)
  · have nc1 : p ≤ i := (nI_leI (by omega) (by omega)).mp (by simpa only [h1, h2, nI_add, pk_mul, nI_s1, n0_lit] using c1)
    refine blk 1 [(.iconst 0, 0, 0, (nI 0)), (.istore_n 3, 0, 0, 0), (.iload_n 2, 0, 0, 0), (.aload_n 0, 0, 0, 0), (.getfield 18, 1, 2, 0), (.getfield 50, 4, 3, 0)] [] (by decide +kernel) rfl (pc' := 25) (ls' := [some (.ref 4), some (.int (nI i)), some (.int (nI j)), some (.int (nI 0)), none]) (st' := [.int (M 8 3), .int (nI j)]) (M' := M) rfl ⟨trivial, trivial, trivial, trivial, rfl, rfl, trivial⟩ ?_
    refine g_icmp_ge (off := 7) (tgt := 32) (by decide +kernel) (by decide) (fun c2 => ?_) (fun c2 => ?_)
    · have nc2 : q ≤ j := (nI_leI (by omega) (by omega)).mp (by simpa only [h1, h2, nI_add, pk_mul, nI_s1, n0_lit] using c2)
      refine blk 1 [(.iconst 0, 0, 0, (nI 0)), (.istore 4, 0, 0, 0), (.aload_n 0, 0, 0, 0), (.ldc 83, 0, 0, (-1000000000)), (.putfield 84, 1, 7, 0), (.aload_n 0, 0, 0, 0), (.ldc 83, 0, 0, (-1000000000)), (.putfield 87, 1, 8, 0), (.aload_n 0, 0, 0, 0), (.ldc 83, 0, 0, (-1000000000)), (.putfield 90, 1, 9, 0)] [] (by decide +kernel) rfl (pc' := 53) (ls' := [some (.ref 4), some (.int (nI i)), some (.int (nI j)), some (.int (nI 0)), some (.int (nI 0))]) (st' := []) (M' := stm (stm (stm M 4 7 (-1000000000)) 4 8 (-1000000000)) 4 9 (-1000000000)) rfl ⟨trivial, trivial, trivial, trivial, rfl, trivial, trivial, rfl, trivial, trivial, rfl, trivial⟩ ?_
      exact l_look00 hm hi hj (by omega) (by omega) rfl rfl rfl rfl rfl (fun z hz => by rw [stm_ne hz, stm_ne hz, stm_ne hz])
    · have nc2 : j < q := by
        have z : ¬ nI q ≤ nI j := by simpa only [h1, h2, nI_add, pk_mul, nI_s1, n0_lit] using c2
        rw [nI_leI (by omega) (by omega)] at z
        omega
      refine blk 1 [(.iconst 1, 0, 0, (nI 1)), (.goto (4), 33, 0, 0), (.istore 4, 0, 0, 0), (.aload_n 0, 0, 0, 0), (.ldc 83, 0, 0, (-1000000000)), (.putfield 84, 1, 7, 0), (.aload_n 0, 0, 0, 0), (.ldc 83, 0, 0, (-1000000000)), (.putfield 87, 1, 8, 0), (.aload_n 0, 0, 0, 0), (.ldc 83, 0, 0, (-1000000000)), (.putfield 90, 1, 9, 0)] [] (by decide +kernel) rfl (pc' := 53) (ls' := [some (.ref 4), some (.int (nI i)), some (.int (nI j)), some (.int (nI 0)), some (.int (nI 1))]) (st' := []) (M' := stm (stm (stm M 4 7 (-1000000000)) 4 8 (-1000000000)) 4 9 (-1000000000)) rfl ⟨trivial, trivial, trivial, trivial, trivial, rfl, trivial, trivial, rfl, trivial, trivial, rfl, trivial⟩ ?_
      exact l_look01 hm hi hj (by omega) (by omega) rfl rfl rfl rfl rfl (fun z hz => by rw [stm_ne hz, stm_ne hz, stm_ne hz])
  · have nc1 : i < p := by
      have z : ¬ nI p ≤ nI i := by simpa only [h1, h2, nI_add, pk_mul, nI_s1, n0_lit] using c1
      rw [nI_leI (by omega) (by omega)] at z
      omega
    refine blk 1 [(.iconst 1, 0, 0, (nI 1)), (.goto (4), 16, 0, 0), (.istore_n 3, 0, 0, 0), (.iload_n 2, 0, 0, 0), (.aload_n 0, 0, 0, 0), (.getfield 18, 1, 2, 0), (.getfield 50, 4, 3, 0)] [] (by decide +kernel) rfl (pc' := 25) (ls' := [some (.ref 4), some (.int (nI i)), some (.int (nI j)), some (.int (nI 1)), none]) (st' := [.int (M 8 3), .int (nI j)]) (M' := M) rfl ⟨trivial, trivial, trivial, trivial, trivial, rfl, rfl, trivial⟩ ?_
    refine g_icmp_ge (off := 7) (tgt := 32) (by decide +kernel) (by decide) (fun c3 => ?_) (fun c3 => ?_)
    · have nc3 : q ≤ j := (nI_leI (by omega) (by omega)).mp (by simpa only [h1, h2, nI_add, pk_mul, nI_s1, n0_lit] using c3)
      refine blk 1 [(.iconst 0, 0, 0, (nI 0)), (.istore 4, 0, 0, 0), (.aload_n 0, 0, 0, 0), (.ldc 83, 0, 0, (-1000000000)), (.putfield 84, 1, 7, 0), (.aload_n 0, 0, 0, 0), (.ldc 83, 0, 0, (-1000000000)), (.putfield 87, 1, 8, 0), (.aload_n 0, 0, 0, 0), (.ldc 83, 0, 0, (-1000000000)), (.putfield 90, 1, 9, 0)] [] (by decide +kernel) rfl (pc' := 53) (ls' := [some (.ref 4), some (.int (nI i)), some (.int (nI j)), some (.int (nI 1)), some (.int (nI 0))]) (st' := []) (M' := stm (stm (stm M 4 7 (-1000000000)) 4 8 (-1000000000)) 4 9 (-1000000000)) rfl ⟨trivial, trivial, trivial, trivial, rfl, trivial, trivial, rfl, trivial, trivial, rfl, trivial⟩ ?_
      exact l_look10 hm hi hj (by omega) (by omega) rfl rfl rfl rfl rfl (fun z hz => by rw [stm_ne hz, stm_ne hz, stm_ne hz])
    · have nc3 : j < q := by
        have z : ¬ nI q ≤ nI j := by simpa only [h1, h2, nI_add, pk_mul, nI_s1, n0_lit] using c3
        rw [nI_leI (by omega) (by omega)] at z
        omega
      refine blk 1 [(.iconst 1, 0, 0, (nI 1)), (.goto (4), 33, 0, 0), (.istore 4, 0, 0, 0), (.aload_n 0, 0, 0, 0), (.ldc 83, 0, 0, (-1000000000)), (.putfield 84, 1, 7, 0), (.aload_n 0, 0, 0, 0), (.ldc 83, 0, 0, (-1000000000)), (.putfield 87, 1, 8, 0), (.aload_n 0, 0, 0, 0), (.ldc 83, 0, 0, (-1000000000)), (.putfield 90, 1, 9, 0)] [] (by decide +kernel) rfl (pc' := 53) (ls' := [some (.ref 4), some (.int (nI i)), some (.int (nI j)), some (.int (nI 1)), some (.int (nI 1))]) (st' := []) (M' := stm (stm (stm M 4 7 (-1000000000)) 4 8 (-1000000000)) 4 9 (-1000000000)) rfl ⟨trivial, trivial, trivial, trivial, trivial, rfl, trivial, trivial, rfl, trivial, trivial, rfl, trivial⟩ ?_
      exact l_look11 hm hi hj (by omega) (by omega) rfl rfl rfl rfl rfl (fun z hz => by rw [stm_ne hz, stm_ne hz, stm_ne hz])
