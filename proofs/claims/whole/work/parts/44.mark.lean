/-! at and mark, of both -/
def atF (x : Int32) : Int32 := if x = -1 then nI 45 else ltr (cd x)
theorem ltr_nar (k : Nat) : narrow .char (.int (ltr k)) = .int (ltr k) := by
  unfold ltr; split <;> decide +kernel
theorem at_chr {x : Int32} (h : okc x) : atF x = chrF x := by
  rcases h with rfl | ⟨a, ha, rfl⟩
  · decide +kernel
  · exact (by decide +kernel : ∀ a, a < 4 → atF (nI a) = chrF (nI a)) a ha
theorem s_at1_35 (M : Mem) {i k W : Nat} (hL : (M 0 5).toNatClampNeg = 35) (hwd : wrdB (M 0 7) (nI i) = true) (hi : i < 5) (hW : colF M 51 = nI W) (hW6 : W ≤ 60) (hk : k < W) (hc : okc (M (51 + i + 5) k)) : Spec mX6_at [.ref 0, .int (nI i), .int (nI k)] M (Ret (atF (M (51 + i + 5) k)) M) := by
  refine Spec.of (by decide) (by simp [Value.category]) (Nat.le_of_ble_eq_true rfl) ?_
  refine blk 6 [(.aload_n 0, 0, 0, 0), (.iload_n 1, 0, 0, 0)] [] (by decide +kernel) rfl (pc' := 2) (ls' := [some (.ref 0), some (.int (nI i)), some (.int (nI k)), none]) (st' := [.int (nI i), .ref 0]) (M' := M) rfl ⟨trivial, trivial, trivial⟩ ?_
  refine g_callV (s_isWord _ (nI i)) ok_X6_at_X6_isWord (by decide +kernel) rfl (c := 6) rfl (by decide) rfl (Nat.le_of_ble_eq_true rfl) (fun r M' h => ?_) rfl
  obtain ⟨hr, hM⟩ := h
  rw [hr, hM]
  show G _ 5 [some (.ref 0), some (.int (nI i)), some (.int (nI k)), none] [.int (bI (wrdB (M 0 7) (nI i)))] M _
  refine g_if_eq (off := 15) (tgt := 20) (by decide +kernel) (by decide) (fun c1 => ?_) (fun c1 => ?_)
  · refine blk 6 [(.bipush 32, 0, 0, (nI 32))] [] (by decide +kernel) rfl (pc' := 22) (ls' := [some (.ref 0), some (.int (nI i)), some (.int (nI k)), none]) (st' := [.int (nI 32)]) (M' := M) rfl ⟨trivial, trivial⟩ ?_
    exfalso
    first | omega | exact absurd (bI_eq c1) (by rw [hwd]; decide)
  · refine blk 6 [(.iload_n 2, 0, 0, 0)] [] (by decide +kernel) rfl (pc' := 9) (ls' := [some (.ref 0), some (.int (nI i)), some (.int (nI k)), none]) (st' := [.int (nI k)]) (M' := M) rfl ⟨trivial, trivial⟩ ?_
    refine g_if_lt (off := 11) (tgt := 20) (by decide +kernel) (by decide) (fun c2 => ?_) (fun c2 => ?_)
    · have nc2 : k < 0 := (nI_ltI (by omega) (by omega)).mp (by simpa only [hW, nI_add, pk_mul, nI_s1, n0_lit] using c2)
      refine blk 6 [(.bipush 32, 0, 0, (nI 32))] [] (by decide +kernel) rfl (pc' := 22) (ls' := [some (.ref 0), some (.int (nI i)), some (.int (nI k)), none]) (st' := [.int (nI 32)]) (M' := M) rfl ⟨trivial, trivial⟩ ?_
      exfalso
      first | omega | exact absurd (bI_eq c1) (by rw [hwd]; decide)
    · have nc2 : 0 ≤ k := by
        have z : ¬ nI k < nI 0 := by simpa only [hW, nI_add, pk_mul, nI_s1, n0_lit] using c2
        rw [nI_ltI (by omega) (by omega)] at z
        omega
      refine blk 6 [(.iload_n 2, 0, 0, 0), (.aload_n 0, 0, 0, 0)] [] (by decide +kernel) rfl (pc' := 14) (ls' := [some (.ref 0), some (.int (nI i)), some (.int (nI k)), none]) (st' := [.ref 0, .int (nI k)]) (M' := M) rfl ⟨trivial, trivial, trivial⟩ ?_
      refine g_callV (s_cols35 _ hL) ok_X6_at_X6_columns (by decide +kernel) rfl (c := 6) rfl (by decide) rfl (Nat.le_of_ble_eq_true rfl) (fun r M' h => ?_) rfl
      obtain ⟨hr, hM⟩ := h
      rw [hr, hM]
      show G _ 17 [some (.ref 0), some (.int (nI i)), some (.int (nI k)), none] [.int (colF M 51), .int (nI k)] M _
      refine g_icmp_lt (off := 6) (tgt := 23) (by decide +kernel) (by decide) (fun c3 => ?_) (fun c3 => ?_)
      · have nc3 : k < W := (nI_ltI (by omega) (by omega)).mp (by simpa only [hW, nI_add, pk_mul, nI_s1, n0_lit] using c3)
        refine blk 6 [(.aload_n 0, 0, 0, 0), (.getfield 48, 6, 5, 0)] [] (by decide +kernel) rfl (pc' := 27) (ls' := [some (.ref 0), some (.int (nI i)), some (.int (nI k)), none]) (st' := [.ref ((M 0 5).toNatClampNeg)]) (M' := M) rfl ⟨trivial, rfl, trivial⟩ ?_
        rw [show (M 0 5).toNatClampNeg = 35 from hL]
        refine blk 6 [(.getfield 120, 3, 0, 0), (.iload_n 1, 0, 0, 0), (.aaload, 0, 0, 0), (.getfield 63, 2, 0, 0), (.iload_n 2, 0, 0, 0), (.iaload, 0, 0, 0), (.istore_n 3, 0, 0, 0), (.iload_n 3, 0, 0, 0), (.iconst (-1), 0, 0, (-1))] [i, k] (by decide +kernel) rfl (pc' := 40) (ls' := [some (.ref 0), some (.int (nI i)), some (.int (nI k)), some (.int (M (51 + i + 5) k))]) (st' := [.int (-1), .int (M (51 + i + 5) k)]) (M' := M) rfl ⟨rfl, trivial, ⟨rfl, (by show _ < 5; omega)⟩, (kd51 (by omega)), trivial, ⟨rfl, (Nat.lt_of_lt_of_eq (by omega : k < 60) (al56 (i := i) (by omega)).symm)⟩, trivial, trivial, trivial, trivial⟩ ?_
        refine g_icmp_ne (off := 8) (tgt := 48) (by decide +kernel) (by decide) (fun c4 => ?_) (fun c4 => ?_)
        · refine blk 6 [(.getstatic 155, 96, 0, 0), (.iload_n 3, 0, 0, 0), (.caload, 0, 0, 0)] [cd (M (51 + i + 5) k)] (by decide +kernel) rfl (pc' := 53) (ls' := [some (.ref 0), some (.int (nI i)), some (.int (nI k)), some (.int (M (51 + i + 5) k))]) (st' := [.int (ltr (cd (M (51 + i + 5) k)))]) (M' := M) rfl ⟨trivial, trivial, ⟨(okc_cd (hc) (by assumption)).1, (okc_cd (hc) (by assumption)).2, rfl⟩, trivial⟩ ?_
          refine g_ireturn (by decide +kernel) rfl (ltr_nar _) ⟨?_, rfl⟩
          rw [atF, if_neg (by assumption)]
        · refine blk 6 [(.bipush 45, 0, 0, (nI 45)), (.goto (8), 53, 0, 0)] [] (by decide +kernel) rfl (pc' := 53) (ls' := [some (.ref 0), some (.int (nI i)), some (.int (nI k)), some (.int (M (51 + i + 5) k))]) (st' := [.int (nI 45)]) (M' := M) rfl ⟨trivial, trivial, trivial⟩ ?_
          refine g_ireturn (by decide +kernel) rfl (by decide +kernel) ⟨?_, rfl⟩
          rw [atF, if_pos (by assumption)]
      · have nc3 : W ≤ k := by
          have z : ¬ nI k < nI W := by simpa only [hW, nI_add, pk_mul, nI_s1, n0_lit] using c3
          rw [nI_ltI (by omega) (by omega)] at z
          omega
        refine blk 6 [(.bipush 32, 0, 0, (nI 32))] [] (by decide +kernel) rfl (pc' := 22) (ls' := [some (.ref 0), some (.int (nI i)), some (.int (nI k)), none]) (st' := [.int (nI 32)]) (M' := M) rfl ⟨trivial, trivial⟩ ?_
        exfalso
        first | omega | exact absurd (bI_eq c1) (by rw [hwd]; decide)
theorem s_at0_35 (M : Mem) {i k : Int32} (hL : (M 0 5).toNatClampNeg = 35) (hno : ¬ (wrdB (M 0 7) i = true ∧ ¬ k < 0 ∧ k < colF M 51)) : Spec mX6_at [.ref 0, .int i, .int k] M (Ret (nI 32) M) := by
  refine Spec.of (by decide) (by simp [Value.category]) (Nat.le_of_ble_eq_true rfl) ?_
  refine blk 6 [(.aload_n 0, 0, 0, 0), (.iload_n 1, 0, 0, 0)] [] (by decide +kernel) rfl (pc' := 2) (ls' := [some (.ref 0), some (.int i), some (.int k), none]) (st' := [.int i, .ref 0]) (M' := M) rfl ⟨trivial, trivial, trivial⟩ ?_
  refine g_callV (s_isWord _ i) ok_X6_at_X6_isWord (by decide +kernel) rfl (c := 6) rfl (by decide) rfl (Nat.le_of_ble_eq_true rfl) (fun r M' h => ?_) rfl
  obtain ⟨hr, hM⟩ := h
  rw [hr, hM]
  show G _ 5 [some (.ref 0), some (.int i), some (.int k), none] [.int (bI (wrdB (M 0 7) i))] M _
  refine g_if_eq (off := 15) (tgt := 20) (by decide +kernel) (by decide) (fun c1 => ?_) (fun c1 => ?_)
  · refine blk 6 [(.bipush 32, 0, 0, (nI 32))] [] (by decide +kernel) rfl (pc' := 22) (ls' := [some (.ref 0), some (.int i), some (.int k), none]) (st' := [.int (nI 32)]) (M' := M) rfl ⟨trivial, trivial⟩ ?_
    exact g_ireturn (by decide +kernel) rfl (by decide +kernel) ⟨rfl, rfl⟩
  · refine blk 6 [(.iload_n 2, 0, 0, 0)] [] (by decide +kernel) rfl (pc' := 9) (ls' := [some (.ref 0), some (.int i), some (.int k), none]) (st' := [.int k]) (M' := M) rfl ⟨trivial, trivial⟩ ?_
    refine g_if_lt (off := 11) (tgt := 20) (by decide +kernel) (by decide) (fun c2 => ?_) (fun c2 => ?_)
    · refine blk 6 [(.bipush 32, 0, 0, (nI 32))] [] (by decide +kernel) rfl (pc' := 22) (ls' := [some (.ref 0), some (.int i), some (.int k), none]) (st' := [.int (nI 32)]) (M' := M) rfl ⟨trivial, trivial⟩ ?_
      exact g_ireturn (by decide +kernel) rfl (by decide +kernel) ⟨rfl, rfl⟩
    · refine blk 6 [(.iload_n 2, 0, 0, 0), (.aload_n 0, 0, 0, 0)] [] (by decide +kernel) rfl (pc' := 14) (ls' := [some (.ref 0), some (.int i), some (.int k), none]) (st' := [.ref 0, .int k]) (M' := M) rfl ⟨trivial, trivial, trivial⟩ ?_
      refine g_callV (s_cols35 _ hL) ok_X6_at_X6_columns (by decide +kernel) rfl (c := 6) rfl (by decide) rfl (Nat.le_of_ble_eq_true rfl) (fun r M' h => ?_) rfl
      obtain ⟨hr, hM⟩ := h
      rw [hr, hM]
      show G _ 17 [some (.ref 0), some (.int i), some (.int k), none] [.int (colF M 51), .int k] M _
      refine g_icmp_lt (off := 6) (tgt := 23) (by decide +kernel) (by decide) (fun c3 => ?_) (fun c3 => ?_)
      · exact absurd ⟨bI_ne c1, c2, c3⟩ hno
      · refine blk 6 [(.bipush 32, 0, 0, (nI 32))] [] (by decide +kernel) rfl (pc' := 22) (ls' := [some (.ref 0), some (.int i), some (.int k), none]) (st' := [.int (nI 32)]) (M' := M) rfl ⟨trivial, trivial⟩ ?_
        exact g_ireturn (by decide +kernel) rfl (by decide +kernel) ⟨rfl, rfl⟩
def mkF (m : Int32) (n : Nat) (c : Bool) : Int32 := if m = nI n then nI 42 else if c = true then nI 58 else if nI 2 * m ≤ nI n then nI 32 else nI 46
theorem s_mark1_35 (M : Mem) {k n W : Nat} (hL : (M 0 5).toNatClampNeg = 35) (hn : M 0 7 = nI n) (hn5 : n ≤ 5) (hW : colF M 51 = nI W) (hW6 : W ≤ 60) (hk : k < W) (hc : ∀ a b, a < n → b < k + 1 → okc (M (51 + a + 5) b)) : Spec mX6_mark [.ref 0, .int (nI k)] M (Ret (mkF (pmax (fun x => psum (cntF M 51 k x) n) 4) n (allB (fun i => allB (aspF M 51 k i) i) n)) M) := by
  refine Spec.of (by decide) (by simp [Value.category]) (Nat.le_of_ble_eq_true rfl) ?_
  refine blk 6 [(.iload_n 1, 0, 0, 0)] [] (by decide +kernel) rfl (pc' := 1) (ls' := [some (.ref 0), some (.int (nI k)), none]) (st' := [.int (nI k)]) (M' := M) rfl ⟨trivial, trivial⟩ ?_
  refine g_if_lt (off := 11) (tgt := 12) (by decide +kernel) (by decide) (fun c1 => ?_) (fun c1 => ?_)
  · have nc1 : k < 0 := (nI_ltI (by omega) (by omega)).mp (by simpa only [hW, nI_add, pk_mul, nI_s1, n0_lit] using c1)
    refine blk 6 [(.bipush 32, 0, 0, (nI 32))] [] (by decide +kernel) rfl (pc' := 14) (ls' := [some (.ref 0), some (.int (nI k)), none]) (st' := [.int (nI 32)]) (M' := M) rfl ⟨trivial, trivial⟩ ?_
    exfalso
    omega
  · have nc1 : 0 ≤ k := by
      have z : ¬ nI k < nI 0 := by simpa only [hW, nI_add, pk_mul, nI_s1, n0_lit] using c1
      rw [nI_ltI (by omega) (by omega)] at z
      omega
    refine blk 6 [(.iload_n 1, 0, 0, 0), (.aload_n 0, 0, 0, 0)] [] (by decide +kernel) rfl (pc' := 6) (ls' := [some (.ref 0), some (.int (nI k)), none]) (st' := [.ref 0, .int (nI k)]) (M' := M) rfl ⟨trivial, trivial, trivial⟩ ?_
    refine g_callV (s_cols35 _ hL) ok_X6_mark_X6_columns (by decide +kernel) rfl (c := 6) rfl (by decide) rfl (Nat.le_of_ble_eq_true rfl) (fun r M' h => ?_) rfl
    obtain ⟨hr, hM⟩ := h
    rw [hr, hM]
    show G _ 9 [some (.ref 0), some (.int (nI k)), none] [.int (colF M 51), .int (nI k)] M _
    refine g_icmp_lt (off := 6) (tgt := 15) (by decide +kernel) (by decide) (fun c2 => ?_) (fun c2 => ?_)
    · have nc2 : k < W := (nI_ltI (by omega) (by omega)).mp (by simpa only [hW, nI_add, pk_mul, nI_s1, n0_lit] using c2)
      refine blk 6 [(.aload_n 0, 0, 0, 0), (.getfield 48, 6, 5, 0)] [] (by decide +kernel) rfl (pc' := 19) (ls' := [some (.ref 0), some (.int (nI k)), none]) (st' := [.ref ((M 0 5).toNatClampNeg)]) (M' := M) rfl ⟨trivial, rfl, trivial⟩ ?_
      rw [show (M 0 5).toNatClampNeg = 35 from hL]
      refine blk 6 [(.iload_n 1, 0, 0, 0), (.aload_n 0, 0, 0, 0), (.getfield 67, 6, 7, 0)] [] (by decide +kernel) rfl (pc' := 24) (ls' := [some (.ref 0), some (.int (nI k)), none]) (st' := [.int (M 0 7), .int (nI k), .ref 35]) (M' := M) rfl ⟨trivial, trivial, rfl, trivial⟩ ?_
      rw [show M 0 7 = nI n from hn]
      refine g_callV (s_most35 M (k := k) (n := n) (by omega) hn5) ok_X6_mark_X3_mostOfOneLetter (by decide +kernel) rfl (c := 3) rfl (by decide) rfl (Nat.le_of_ble_eq_true rfl) (fun r M' h => ?_) rfl
      obtain ⟨hr, hM⟩ := h
      rw [hr, hM]
      show G _ 27 [some (.ref 0), some (.int (nI k)), none] [.int (pmax (fun x => psum (cntF M 51 k x) n) 4)] M _
      refine blk 6 [(.istore_n 2, 0, 0, 0), (.iload_n 2, 0, 0, 0), (.aload_n 0, 0, 0, 0), (.getfield 67, 6, 7, 0)] [] (by decide +kernel) rfl (pc' := 33) (ls' := [some (.ref 0), some (.int (nI k)), some (.int (pmax (fun x => psum (cntF M 51 k x) n) 4))]) (st' := [.int (M 0 7), .int (pmax (fun x => psum (cntF M 51 k x) n) 4)]) (M' := M) rfl ⟨trivial, trivial, trivial, rfl, trivial⟩ ?_
      refine g_icmp_ne (off := 6) (tgt := 39) (by decide +kernel) (by decide) (fun c3 => ?_) (fun c3 => ?_)
      · refine blk 6 [(.aload_n 0, 0, 0, 0), (.getfield 48, 6, 5, 0)] [] (by decide +kernel) rfl (pc' := 43) (ls' := [some (.ref 0), some (.int (nI k)), some (.int (pmax (fun x => psum (cntF M 51 k x) n) 4))]) (st' := [.ref ((M 0 5).toNatClampNeg)]) (M' := M) rfl ⟨trivial, rfl, trivial⟩ ?_
        rw [show (M 0 5).toNatClampNeg = 35 from hL]
        refine blk 6 [(.iload_n 1, 0, 0, 0), (.aload_n 0, 0, 0, 0), (.getfield 67, 6, 7, 0), (.aload_n 0, 0, 0, 0), (.getfield 25, 6, 2, 0)] [] (by decide +kernel) rfl (pc' := 52) (ls' := [some (.ref 0), some (.int (nI k)), some (.int (pmax (fun x => psum (cntF M 51 k x) n) 4))]) (st' := [.ref 2, .int (M 0 7), .int (nI k), .ref 35]) (M' := M) rfl ⟨trivial, trivial, rfl, trivial, rfl, trivial⟩ ?_
        rw [show M 0 7 = nI n from hn]
        refine g_callV (s_asp35 M (k := k) (n := n) (by omega) hn5 hc) ok_X6_mark_X3_allScoresPositive (by decide +kernel) rfl (c := 3) rfl (by decide) rfl (Nat.le_of_ble_eq_true rfl) (fun r M' h => ?_) rfl
        obtain ⟨hr, hM⟩ := h
        rw [hr, hM]
        show G _ 55 [some (.ref 0), some (.int (nI k)), some (.int (pmax (fun x => psum (cntF M 51 k x) n) 4))] [.int (bI (allB (fun i => allB (aspF M 51 k i) i) n))] M _
        refine g_if_eq (off := 6) (tgt := 61) (by decide +kernel) (by decide) (fun c4 => ?_) (fun c4 => ?_)
        · refine blk 6 [(.iconst 2, 0, 0, (nI 2)), (.iload_n 2, 0, 0, 0), (.imul, 0, 0, 0), (.aload_n 0, 0, 0, 0), (.getfield 67, 6, 7, 0)] [] (by decide +kernel) rfl (pc' := 68) (ls' := [some (.ref 0), some (.int (nI k)), some (.int (pmax (fun x => psum (cntF M 51 k x) n) 4))]) (st' := [.int (M 0 7), .int ((nI 2) * (pmax (fun x => psum (cntF M 51 k x) n) 4))]) (M' := M) rfl ⟨trivial, trivial, trivial, trivial, rfl, trivial⟩ ?_
          refine g_icmp_le (off := 8) (tgt := 76) (by decide +kernel) (by decide) (fun c5 => ?_) (fun c5 => ?_)
          · refine blk 6 [(.bipush 32, 0, 0, (nI 32))] [] (by decide +kernel) rfl (pc' := 78) (ls' := [some (.ref 0), some (.int (nI k)), some (.int (pmax (fun x => psum (cntF M 51 k x) n) 4))]) (st' := [.int (nI 32)]) (M' := M) rfl ⟨trivial, trivial⟩ ?_
            refine g_ireturn (by decide +kernel) rfl (by decide +kernel) ⟨?_, rfl⟩
            unfold mkF
            rw [← hn]
            rw [if_neg (by assumption), if_neg (by rw [bI_eq (b := allB (fun i => allB (aspF M 51 k i) i) n) (by assumption)]; decide), if_pos (by assumption)]
          · refine blk 6 [(.bipush 46, 0, 0, (nI 46)), (.goto (5), 78, 0, 0)] [] (by decide +kernel) rfl (pc' := 78) (ls' := [some (.ref 0), some (.int (nI k)), some (.int (pmax (fun x => psum (cntF M 51 k x) n) 4))]) (st' := [.int (nI 46)]) (M' := M) rfl ⟨trivial, trivial, trivial⟩ ?_
            refine g_ireturn (by decide +kernel) rfl (by decide +kernel) ⟨?_, rfl⟩
            unfold mkF
            rw [← hn]
            rw [if_neg (by assumption), if_neg (by rw [bI_eq (b := allB (fun i => allB (aspF M 51 k i) i) n) (by assumption)]; decide), if_neg (by assumption)]
        · refine blk 6 [(.bipush 58, 0, 0, (nI 58))] [] (by decide +kernel) rfl (pc' := 60) (ls' := [some (.ref 0), some (.int (nI k)), some (.int (pmax (fun x => psum (cntF M 51 k x) n) 4))]) (st' := [.int (nI 58)]) (M' := M) rfl ⟨trivial, trivial⟩ ?_
          refine g_ireturn (by decide +kernel) rfl (by decide +kernel) ⟨?_, rfl⟩
          unfold mkF
          rw [← hn]
          rw [if_neg (by assumption), if_pos (bI_ne (by assumption))]
      · refine blk 6 [(.bipush 42, 0, 0, (nI 42))] [] (by decide +kernel) rfl (pc' := 38) (ls' := [some (.ref 0), some (.int (nI k)), some (.int (pmax (fun x => psum (cntF M 51 k x) n) 4))]) (st' := [.int (nI 42)]) (M' := M) rfl ⟨trivial, trivial⟩ ?_
        refine g_ireturn (by decide +kernel) rfl (by decide +kernel) ⟨?_, rfl⟩
        unfold mkF
        rw [← hn]
        rw [if_pos (by assumption)]
    · have nc2 : W ≤ k := by
        have z : ¬ nI k < nI W := by simpa only [hW, nI_add, pk_mul, nI_s1, n0_lit] using c2
        rw [nI_ltI (by omega) (by omega)] at z
        omega
      refine blk 6 [(.bipush 32, 0, 0, (nI 32))] [] (by decide +kernel) rfl (pc' := 14) (ls' := [some (.ref 0), some (.int (nI k)), none]) (st' := [.int (nI 32)]) (M' := M) rfl ⟨trivial, trivial⟩ ?_
      exfalso
      omega
theorem s_mark0_35 (M : Mem) {k : Int32} (hL : (M 0 5).toNatClampNeg = 35) (hno : ¬ (¬ k < 0 ∧ k < colF M 51)) : Spec mX6_mark [.ref 0, .int k] M (Ret (nI 32) M) := by
  refine Spec.of (by decide) (by simp [Value.category]) (Nat.le_of_ble_eq_true rfl) ?_
  refine blk 6 [(.iload_n 1, 0, 0, 0)] [] (by decide +kernel) rfl (pc' := 1) (ls' := [some (.ref 0), some (.int k), none]) (st' := [.int k]) (M' := M) rfl ⟨trivial, trivial⟩ ?_
  refine g_if_lt (off := 11) (tgt := 12) (by decide +kernel) (by decide) (fun c1 => ?_) (fun c1 => ?_)
  · refine blk 6 [(.bipush 32, 0, 0, (nI 32))] [] (by decide +kernel) rfl (pc' := 14) (ls' := [some (.ref 0), some (.int k), none]) (st' := [.int (nI 32)]) (M' := M) rfl ⟨trivial, trivial⟩ ?_
    exact g_ireturn (by decide +kernel) rfl (by decide +kernel) ⟨rfl, rfl⟩
  · refine blk 6 [(.iload_n 1, 0, 0, 0), (.aload_n 0, 0, 0, 0)] [] (by decide +kernel) rfl (pc' := 6) (ls' := [some (.ref 0), some (.int k), none]) (st' := [.ref 0, .int k]) (M' := M) rfl ⟨trivial, trivial, trivial⟩ ?_
    refine g_callV (s_cols35 _ hL) ok_X6_mark_X6_columns (by decide +kernel) rfl (c := 6) rfl (by decide) rfl (Nat.le_of_ble_eq_true rfl) (fun r M' h => ?_) rfl
    obtain ⟨hr, hM⟩ := h
    rw [hr, hM]
    show G _ 9 [some (.ref 0), some (.int k), none] [.int (colF M 51), .int k] M _
    refine g_icmp_lt (off := 6) (tgt := 15) (by decide +kernel) (by decide) (fun c2 => ?_) (fun c2 => ?_)
    · exact absurd ⟨c1, c2⟩ hno
    · refine blk 6 [(.bipush 32, 0, 0, (nI 32))] [] (by decide +kernel) rfl (pc' := 14) (ls' := [some (.ref 0), some (.int k), none]) (st' := [.int (nI 32)]) (M' := M) rfl ⟨trivial, trivial⟩ ?_
      exact g_ireturn (by decide +kernel) rfl (by decide +kernel) ⟨rfl, rfl⟩
theorem s_at1_37 (M : Mem) {i k W : Nat} (hL : (M 0 5).toNatClampNeg = 37) (hwd : wrdB (M 0 7) (nI i) = true) (hi : i < 5) (hW : colF M 61 = nI W) (hW6 : W ≤ 60) (hk : k < W) (hc : okc (M (61 + i + 5) k)) : Spec mX6_at [.ref 0, .int (nI i), .int (nI k)] M (Ret (atF (M (61 + i + 5) k)) M) := by
  refine Spec.of (by decide) (by simp [Value.category]) (Nat.le_of_ble_eq_true rfl) ?_
  refine blk 6 [(.aload_n 0, 0, 0, 0), (.iload_n 1, 0, 0, 0)] [] (by decide +kernel) rfl (pc' := 2) (ls' := [some (.ref 0), some (.int (nI i)), some (.int (nI k)), none]) (st' := [.int (nI i), .ref 0]) (M' := M) rfl ⟨trivial, trivial, trivial⟩ ?_
  refine g_callV (s_isWord _ (nI i)) ok_X6_at_X6_isWord (by decide +kernel) rfl (c := 6) rfl (by decide) rfl (Nat.le_of_ble_eq_true rfl) (fun r M' h => ?_) rfl
  obtain ⟨hr, hM⟩ := h
  rw [hr, hM]
  show G _ 5 [some (.ref 0), some (.int (nI i)), some (.int (nI k)), none] [.int (bI (wrdB (M 0 7) (nI i)))] M _
  refine g_if_eq (off := 15) (tgt := 20) (by decide +kernel) (by decide) (fun c1 => ?_) (fun c1 => ?_)
  · refine blk 6 [(.bipush 32, 0, 0, (nI 32))] [] (by decide +kernel) rfl (pc' := 22) (ls' := [some (.ref 0), some (.int (nI i)), some (.int (nI k)), none]) (st' := [.int (nI 32)]) (M' := M) rfl ⟨trivial, trivial⟩ ?_
    exfalso
    first | omega | exact absurd (bI_eq c1) (by rw [hwd]; decide)
  · refine blk 6 [(.iload_n 2, 0, 0, 0)] [] (by decide +kernel) rfl (pc' := 9) (ls' := [some (.ref 0), some (.int (nI i)), some (.int (nI k)), none]) (st' := [.int (nI k)]) (M' := M) rfl ⟨trivial, trivial⟩ ?_
    refine g_if_lt (off := 11) (tgt := 20) (by decide +kernel) (by decide) (fun c2 => ?_) (fun c2 => ?_)
    · have nc2 : k < 0 := (nI_ltI (by omega) (by omega)).mp (by simpa only [hW, nI_add, pk_mul, nI_s1, n0_lit] using c2)
      refine blk 6 [(.bipush 32, 0, 0, (nI 32))] [] (by decide +kernel) rfl (pc' := 22) (ls' := [some (.ref 0), some (.int (nI i)), some (.int (nI k)), none]) (st' := [.int (nI 32)]) (M' := M) rfl ⟨trivial, trivial⟩ ?_
      exfalso
      first | omega | exact absurd (bI_eq c1) (by rw [hwd]; decide)
    · have nc2 : 0 ≤ k := by
        have z : ¬ nI k < nI 0 := by simpa only [hW, nI_add, pk_mul, nI_s1, n0_lit] using c2
        rw [nI_ltI (by omega) (by omega)] at z
        omega
      refine blk 6 [(.iload_n 2, 0, 0, 0), (.aload_n 0, 0, 0, 0)] [] (by decide +kernel) rfl (pc' := 14) (ls' := [some (.ref 0), some (.int (nI i)), some (.int (nI k)), none]) (st' := [.ref 0, .int (nI k)]) (M' := M) rfl ⟨trivial, trivial, trivial⟩ ?_
      refine g_callV (s_cols37 _ hL) ok_X6_at_X6_columns (by decide +kernel) rfl (c := 6) rfl (by decide) rfl (Nat.le_of_ble_eq_true rfl) (fun r M' h => ?_) rfl
      obtain ⟨hr, hM⟩ := h
      rw [hr, hM]
      show G _ 17 [some (.ref 0), some (.int (nI i)), some (.int (nI k)), none] [.int (colF M 61), .int (nI k)] M _
      refine g_icmp_lt (off := 6) (tgt := 23) (by decide +kernel) (by decide) (fun c3 => ?_) (fun c3 => ?_)
      · have nc3 : k < W := (nI_ltI (by omega) (by omega)).mp (by simpa only [hW, nI_add, pk_mul, nI_s1, n0_lit] using c3)
        refine blk 6 [(.aload_n 0, 0, 0, 0), (.getfield 48, 6, 5, 0)] [] (by decide +kernel) rfl (pc' := 27) (ls' := [some (.ref 0), some (.int (nI i)), some (.int (nI k)), none]) (st' := [.ref ((M 0 5).toNatClampNeg)]) (M' := M) rfl ⟨trivial, rfl, trivial⟩ ?_
        rw [show (M 0 5).toNatClampNeg = 37 from hL]
        refine blk 6 [(.getfield 120, 3, 0, 0), (.iload_n 1, 0, 0, 0), (.aaload, 0, 0, 0), (.getfield 63, 2, 0, 0), (.iload_n 2, 0, 0, 0), (.iaload, 0, 0, 0), (.istore_n 3, 0, 0, 0), (.iload_n 3, 0, 0, 0), (.iconst (-1), 0, 0, (-1))] [i, k] (by decide +kernel) rfl (pc' := 40) (ls' := [some (.ref 0), some (.int (nI i)), some (.int (nI k)), some (.int (M (61 + i + 5) k))]) (st' := [.int (-1), .int (M (61 + i + 5) k)]) (M' := M) rfl ⟨rfl, trivial, ⟨rfl, (by show _ < 5; omega)⟩, (kd61 (by omega)), trivial, ⟨rfl, (Nat.lt_of_lt_of_eq (by omega : k < 60) (al66 (i := i) (by omega)).symm)⟩, trivial, trivial, trivial, trivial⟩ ?_
        refine g_icmp_ne (off := 8) (tgt := 48) (by decide +kernel) (by decide) (fun c4 => ?_) (fun c4 => ?_)
        · refine blk 6 [(.getstatic 155, 96, 0, 0), (.iload_n 3, 0, 0, 0), (.caload, 0, 0, 0)] [cd (M (61 + i + 5) k)] (by decide +kernel) rfl (pc' := 53) (ls' := [some (.ref 0), some (.int (nI i)), some (.int (nI k)), some (.int (M (61 + i + 5) k))]) (st' := [.int (ltr (cd (M (61 + i + 5) k)))]) (M' := M) rfl ⟨trivial, trivial, ⟨(okc_cd (hc) (by assumption)).1, (okc_cd (hc) (by assumption)).2, rfl⟩, trivial⟩ ?_
          refine g_ireturn (by decide +kernel) rfl (ltr_nar _) ⟨?_, rfl⟩
          rw [atF, if_neg (by assumption)]
        · refine blk 6 [(.bipush 45, 0, 0, (nI 45)), (.goto (8), 53, 0, 0)] [] (by decide +kernel) rfl (pc' := 53) (ls' := [some (.ref 0), some (.int (nI i)), some (.int (nI k)), some (.int (M (61 + i + 5) k))]) (st' := [.int (nI 45)]) (M' := M) rfl ⟨trivial, trivial, trivial⟩ ?_
          refine g_ireturn (by decide +kernel) rfl (by decide +kernel) ⟨?_, rfl⟩
          rw [atF, if_pos (by assumption)]
      · have nc3 : W ≤ k := by
          have z : ¬ nI k < nI W := by simpa only [hW, nI_add, pk_mul, nI_s1, n0_lit] using c3
          rw [nI_ltI (by omega) (by omega)] at z
          omega
        refine blk 6 [(.bipush 32, 0, 0, (nI 32))] [] (by decide +kernel) rfl (pc' := 22) (ls' := [some (.ref 0), some (.int (nI i)), some (.int (nI k)), none]) (st' := [.int (nI 32)]) (M' := M) rfl ⟨trivial, trivial⟩ ?_
        exfalso
        first | omega | exact absurd (bI_eq c1) (by rw [hwd]; decide)
theorem s_at0_37 (M : Mem) {i k : Int32} (hL : (M 0 5).toNatClampNeg = 37) (hno : ¬ (wrdB (M 0 7) i = true ∧ ¬ k < 0 ∧ k < colF M 61)) : Spec mX6_at [.ref 0, .int i, .int k] M (Ret (nI 32) M) := by
  refine Spec.of (by decide) (by simp [Value.category]) (Nat.le_of_ble_eq_true rfl) ?_
  refine blk 6 [(.aload_n 0, 0, 0, 0), (.iload_n 1, 0, 0, 0)] [] (by decide +kernel) rfl (pc' := 2) (ls' := [some (.ref 0), some (.int i), some (.int k), none]) (st' := [.int i, .ref 0]) (M' := M) rfl ⟨trivial, trivial, trivial⟩ ?_
  refine g_callV (s_isWord _ i) ok_X6_at_X6_isWord (by decide +kernel) rfl (c := 6) rfl (by decide) rfl (Nat.le_of_ble_eq_true rfl) (fun r M' h => ?_) rfl
  obtain ⟨hr, hM⟩ := h
  rw [hr, hM]
  show G _ 5 [some (.ref 0), some (.int i), some (.int k), none] [.int (bI (wrdB (M 0 7) i))] M _
  refine g_if_eq (off := 15) (tgt := 20) (by decide +kernel) (by decide) (fun c1 => ?_) (fun c1 => ?_)
  · refine blk 6 [(.bipush 32, 0, 0, (nI 32))] [] (by decide +kernel) rfl (pc' := 22) (ls' := [some (.ref 0), some (.int i), some (.int k), none]) (st' := [.int (nI 32)]) (M' := M) rfl ⟨trivial, trivial⟩ ?_
    exact g_ireturn (by decide +kernel) rfl (by decide +kernel) ⟨rfl, rfl⟩
  · refine blk 6 [(.iload_n 2, 0, 0, 0)] [] (by decide +kernel) rfl (pc' := 9) (ls' := [some (.ref 0), some (.int i), some (.int k), none]) (st' := [.int k]) (M' := M) rfl ⟨trivial, trivial⟩ ?_
    refine g_if_lt (off := 11) (tgt := 20) (by decide +kernel) (by decide) (fun c2 => ?_) (fun c2 => ?_)
    · refine blk 6 [(.bipush 32, 0, 0, (nI 32))] [] (by decide +kernel) rfl (pc' := 22) (ls' := [some (.ref 0), some (.int i), some (.int k), none]) (st' := [.int (nI 32)]) (M' := M) rfl ⟨trivial, trivial⟩ ?_
      exact g_ireturn (by decide +kernel) rfl (by decide +kernel) ⟨rfl, rfl⟩
    · refine blk 6 [(.iload_n 2, 0, 0, 0), (.aload_n 0, 0, 0, 0)] [] (by decide +kernel) rfl (pc' := 14) (ls' := [some (.ref 0), some (.int i), some (.int k), none]) (st' := [.ref 0, .int k]) (M' := M) rfl ⟨trivial, trivial, trivial⟩ ?_
      refine g_callV (s_cols37 _ hL) ok_X6_at_X6_columns (by decide +kernel) rfl (c := 6) rfl (by decide) rfl (Nat.le_of_ble_eq_true rfl) (fun r M' h => ?_) rfl
      obtain ⟨hr, hM⟩ := h
      rw [hr, hM]
      show G _ 17 [some (.ref 0), some (.int i), some (.int k), none] [.int (colF M 61), .int k] M _
      refine g_icmp_lt (off := 6) (tgt := 23) (by decide +kernel) (by decide) (fun c3 => ?_) (fun c3 => ?_)
      · exact absurd ⟨bI_ne c1, c2, c3⟩ hno
      · refine blk 6 [(.bipush 32, 0, 0, (nI 32))] [] (by decide +kernel) rfl (pc' := 22) (ls' := [some (.ref 0), some (.int i), some (.int k), none]) (st' := [.int (nI 32)]) (M' := M) rfl ⟨trivial, trivial⟩ ?_
        exact g_ireturn (by decide +kernel) rfl (by decide +kernel) ⟨rfl, rfl⟩
theorem s_mark1_37 (M : Mem) {k n W : Nat} (hL : (M 0 5).toNatClampNeg = 37) (hn : M 0 7 = nI n) (hn5 : n ≤ 5) (hW : colF M 61 = nI W) (hW6 : W ≤ 60) (hk : k < W) (hc : ∀ a b, a < n → b < k + 1 → okc (M (61 + a + 5) b)) : Spec mX6_mark [.ref 0, .int (nI k)] M (Ret (mkF (pmax (fun x => psum (cntF M 61 k x) n) 4) n (allB (fun i => allB (aspF M 61 k i) i) n)) M) := by
  refine Spec.of (by decide) (by simp [Value.category]) (Nat.le_of_ble_eq_true rfl) ?_
  refine blk 6 [(.iload_n 1, 0, 0, 0)] [] (by decide +kernel) rfl (pc' := 1) (ls' := [some (.ref 0), some (.int (nI k)), none]) (st' := [.int (nI k)]) (M' := M) rfl ⟨trivial, trivial⟩ ?_
  refine g_if_lt (off := 11) (tgt := 12) (by decide +kernel) (by decide) (fun c1 => ?_) (fun c1 => ?_)
  · have nc1 : k < 0 := (nI_ltI (by omega) (by omega)).mp (by simpa only [hW, nI_add, pk_mul, nI_s1, n0_lit] using c1)
    refine blk 6 [(.bipush 32, 0, 0, (nI 32))] [] (by decide +kernel) rfl (pc' := 14) (ls' := [some (.ref 0), some (.int (nI k)), none]) (st' := [.int (nI 32)]) (M' := M) rfl ⟨trivial, trivial⟩ ?_
    exfalso
    omega
  · have nc1 : 0 ≤ k := by
      have z : ¬ nI k < nI 0 := by simpa only [hW, nI_add, pk_mul, nI_s1, n0_lit] using c1
      rw [nI_ltI (by omega) (by omega)] at z
      omega
    refine blk 6 [(.iload_n 1, 0, 0, 0), (.aload_n 0, 0, 0, 0)] [] (by decide +kernel) rfl (pc' := 6) (ls' := [some (.ref 0), some (.int (nI k)), none]) (st' := [.ref 0, .int (nI k)]) (M' := M) rfl ⟨trivial, trivial, trivial⟩ ?_
    refine g_callV (s_cols37 _ hL) ok_X6_mark_X6_columns (by decide +kernel) rfl (c := 6) rfl (by decide) rfl (Nat.le_of_ble_eq_true rfl) (fun r M' h => ?_) rfl
    obtain ⟨hr, hM⟩ := h
    rw [hr, hM]
    show G _ 9 [some (.ref 0), some (.int (nI k)), none] [.int (colF M 61), .int (nI k)] M _
    refine g_icmp_lt (off := 6) (tgt := 15) (by decide +kernel) (by decide) (fun c2 => ?_) (fun c2 => ?_)
    · have nc2 : k < W := (nI_ltI (by omega) (by omega)).mp (by simpa only [hW, nI_add, pk_mul, nI_s1, n0_lit] using c2)
      refine blk 6 [(.aload_n 0, 0, 0, 0), (.getfield 48, 6, 5, 0)] [] (by decide +kernel) rfl (pc' := 19) (ls' := [some (.ref 0), some (.int (nI k)), none]) (st' := [.ref ((M 0 5).toNatClampNeg)]) (M' := M) rfl ⟨trivial, rfl, trivial⟩ ?_
      rw [show (M 0 5).toNatClampNeg = 37 from hL]
      refine blk 6 [(.iload_n 1, 0, 0, 0), (.aload_n 0, 0, 0, 0), (.getfield 67, 6, 7, 0)] [] (by decide +kernel) rfl (pc' := 24) (ls' := [some (.ref 0), some (.int (nI k)), none]) (st' := [.int (M 0 7), .int (nI k), .ref 37]) (M' := M) rfl ⟨trivial, trivial, rfl, trivial⟩ ?_
      rw [show M 0 7 = nI n from hn]
      refine g_callV (s_most37 M (k := k) (n := n) (by omega) hn5) ok_X6_mark_X3_mostOfOneLetter (by decide +kernel) rfl (c := 3) rfl (by decide) rfl (Nat.le_of_ble_eq_true rfl) (fun r M' h => ?_) rfl
      obtain ⟨hr, hM⟩ := h
      rw [hr, hM]
      show G _ 27 [some (.ref 0), some (.int (nI k)), none] [.int (pmax (fun x => psum (cntF M 61 k x) n) 4)] M _
      refine blk 6 [(.istore_n 2, 0, 0, 0), (.iload_n 2, 0, 0, 0), (.aload_n 0, 0, 0, 0), (.getfield 67, 6, 7, 0)] [] (by decide +kernel) rfl (pc' := 33) (ls' := [some (.ref 0), some (.int (nI k)), some (.int (pmax (fun x => psum (cntF M 61 k x) n) 4))]) (st' := [.int (M 0 7), .int (pmax (fun x => psum (cntF M 61 k x) n) 4)]) (M' := M) rfl ⟨trivial, trivial, trivial, rfl, trivial⟩ ?_
      refine g_icmp_ne (off := 6) (tgt := 39) (by decide +kernel) (by decide) (fun c3 => ?_) (fun c3 => ?_)
      · refine blk 6 [(.aload_n 0, 0, 0, 0), (.getfield 48, 6, 5, 0)] [] (by decide +kernel) rfl (pc' := 43) (ls' := [some (.ref 0), some (.int (nI k)), some (.int (pmax (fun x => psum (cntF M 61 k x) n) 4))]) (st' := [.ref ((M 0 5).toNatClampNeg)]) (M' := M) rfl ⟨trivial, rfl, trivial⟩ ?_
        rw [show (M 0 5).toNatClampNeg = 37 from hL]
        refine blk 6 [(.iload_n 1, 0, 0, 0), (.aload_n 0, 0, 0, 0), (.getfield 67, 6, 7, 0), (.aload_n 0, 0, 0, 0), (.getfield 25, 6, 2, 0)] [] (by decide +kernel) rfl (pc' := 52) (ls' := [some (.ref 0), some (.int (nI k)), some (.int (pmax (fun x => psum (cntF M 61 k x) n) 4))]) (st' := [.ref 2, .int (M 0 7), .int (nI k), .ref 37]) (M' := M) rfl ⟨trivial, trivial, rfl, trivial, rfl, trivial⟩ ?_
        rw [show M 0 7 = nI n from hn]
        refine g_callV (s_asp37 M (k := k) (n := n) (by omega) hn5 hc) ok_X6_mark_X3_allScoresPositive (by decide +kernel) rfl (c := 3) rfl (by decide) rfl (Nat.le_of_ble_eq_true rfl) (fun r M' h => ?_) rfl
        obtain ⟨hr, hM⟩ := h
        rw [hr, hM]
        show G _ 55 [some (.ref 0), some (.int (nI k)), some (.int (pmax (fun x => psum (cntF M 61 k x) n) 4))] [.int (bI (allB (fun i => allB (aspF M 61 k i) i) n))] M _
        refine g_if_eq (off := 6) (tgt := 61) (by decide +kernel) (by decide) (fun c4 => ?_) (fun c4 => ?_)
        · refine blk 6 [(.iconst 2, 0, 0, (nI 2)), (.iload_n 2, 0, 0, 0), (.imul, 0, 0, 0), (.aload_n 0, 0, 0, 0), (.getfield 67, 6, 7, 0)] [] (by decide +kernel) rfl (pc' := 68) (ls' := [some (.ref 0), some (.int (nI k)), some (.int (pmax (fun x => psum (cntF M 61 k x) n) 4))]) (st' := [.int (M 0 7), .int ((nI 2) * (pmax (fun x => psum (cntF M 61 k x) n) 4))]) (M' := M) rfl ⟨trivial, trivial, trivial, trivial, rfl, trivial⟩ ?_
          refine g_icmp_le (off := 8) (tgt := 76) (by decide +kernel) (by decide) (fun c5 => ?_) (fun c5 => ?_)
          · refine blk 6 [(.bipush 32, 0, 0, (nI 32))] [] (by decide +kernel) rfl (pc' := 78) (ls' := [some (.ref 0), some (.int (nI k)), some (.int (pmax (fun x => psum (cntF M 61 k x) n) 4))]) (st' := [.int (nI 32)]) (M' := M) rfl ⟨trivial, trivial⟩ ?_
            refine g_ireturn (by decide +kernel) rfl (by decide +kernel) ⟨?_, rfl⟩
            unfold mkF
            rw [← hn]
            rw [if_neg (by assumption), if_neg (by rw [bI_eq (b := allB (fun i => allB (aspF M 61 k i) i) n) (by assumption)]; decide), if_pos (by assumption)]
          · refine blk 6 [(.bipush 46, 0, 0, (nI 46)), (.goto (5), 78, 0, 0)] [] (by decide +kernel) rfl (pc' := 78) (ls' := [some (.ref 0), some (.int (nI k)), some (.int (pmax (fun x => psum (cntF M 61 k x) n) 4))]) (st' := [.int (nI 46)]) (M' := M) rfl ⟨trivial, trivial, trivial⟩ ?_
            refine g_ireturn (by decide +kernel) rfl (by decide +kernel) ⟨?_, rfl⟩
            unfold mkF
            rw [← hn]
            rw [if_neg (by assumption), if_neg (by rw [bI_eq (b := allB (fun i => allB (aspF M 61 k i) i) n) (by assumption)]; decide), if_neg (by assumption)]
        · refine blk 6 [(.bipush 58, 0, 0, (nI 58))] [] (by decide +kernel) rfl (pc' := 60) (ls' := [some (.ref 0), some (.int (nI k)), some (.int (pmax (fun x => psum (cntF M 61 k x) n) 4))]) (st' := [.int (nI 58)]) (M' := M) rfl ⟨trivial, trivial⟩ ?_
          refine g_ireturn (by decide +kernel) rfl (by decide +kernel) ⟨?_, rfl⟩
          unfold mkF
          rw [← hn]
          rw [if_neg (by assumption), if_pos (bI_ne (by assumption))]
      · refine blk 6 [(.bipush 42, 0, 0, (nI 42))] [] (by decide +kernel) rfl (pc' := 38) (ls' := [some (.ref 0), some (.int (nI k)), some (.int (pmax (fun x => psum (cntF M 61 k x) n) 4))]) (st' := [.int (nI 42)]) (M' := M) rfl ⟨trivial, trivial⟩ ?_
        refine g_ireturn (by decide +kernel) rfl (by decide +kernel) ⟨?_, rfl⟩
        unfold mkF
        rw [← hn]
        rw [if_pos (by assumption)]
    · have nc2 : W ≤ k := by
        have z : ¬ nI k < nI W := by simpa only [hW, nI_add, pk_mul, nI_s1, n0_lit] using c2
        rw [nI_ltI (by omega) (by omega)] at z
        omega
      refine blk 6 [(.bipush 32, 0, 0, (nI 32))] [] (by decide +kernel) rfl (pc' := 14) (ls' := [some (.ref 0), some (.int (nI k)), none]) (st' := [.int (nI 32)]) (M' := M) rfl ⟨trivial, trivial⟩ ?_
      exfalso
      omega
theorem s_mark0_37 (M : Mem) {k : Int32} (hL : (M 0 5).toNatClampNeg = 37) (hno : ¬ (¬ k < 0 ∧ k < colF M 61)) : Spec mX6_mark [.ref 0, .int k] M (Ret (nI 32) M) := by
  refine Spec.of (by decide) (by simp [Value.category]) (Nat.le_of_ble_eq_true rfl) ?_
  refine blk 6 [(.iload_n 1, 0, 0, 0)] [] (by decide +kernel) rfl (pc' := 1) (ls' := [some (.ref 0), some (.int k), none]) (st' := [.int k]) (M' := M) rfl ⟨trivial, trivial⟩ ?_
  refine g_if_lt (off := 11) (tgt := 12) (by decide +kernel) (by decide) (fun c1 => ?_) (fun c1 => ?_)
  · refine blk 6 [(.bipush 32, 0, 0, (nI 32))] [] (by decide +kernel) rfl (pc' := 14) (ls' := [some (.ref 0), some (.int k), none]) (st' := [.int (nI 32)]) (M' := M) rfl ⟨trivial, trivial⟩ ?_
    exact g_ireturn (by decide +kernel) rfl (by decide +kernel) ⟨rfl, rfl⟩
  · refine blk 6 [(.iload_n 1, 0, 0, 0), (.aload_n 0, 0, 0, 0)] [] (by decide +kernel) rfl (pc' := 6) (ls' := [some (.ref 0), some (.int k), none]) (st' := [.ref 0, .int k]) (M' := M) rfl ⟨trivial, trivial, trivial⟩ ?_
    refine g_callV (s_cols37 _ hL) ok_X6_mark_X6_columns (by decide +kernel) rfl (c := 6) rfl (by decide) rfl (Nat.le_of_ble_eq_true rfl) (fun r M' h => ?_) rfl
    obtain ⟨hr, hM⟩ := h
    rw [hr, hM]
    show G _ 9 [some (.ref 0), some (.int k), none] [.int (colF M 61), .int k] M _
    refine g_icmp_lt (off := 6) (tgt := 15) (by decide +kernel) (by decide) (fun c2 => ?_) (fun c2 => ?_)
    · exact absurd ⟨c1, c2⟩ hno
    · refine blk 6 [(.bipush 32, 0, 0, (nI 32))] [] (by decide +kernel) rfl (pc' := 14) (ls' := [some (.ref 0), some (.int k), none]) (st' := [.int (nI 32)]) (M' := M) rfl ⟨trivial, trivial⟩ ?_
      exact g_ireturn (by decide +kernel) rfl (by decide +kernel) ⟨rfl, rfl⟩
def mgF (M : Mem) (k : Nat) : Nat → Bool := fun v => decide (M 89 (60 * v + k) = -1)
def mcF (M : Mem) (k v : Nat) : Nat → Int32 := fun w => if ¬ M 89 (60 * v + k) = -1 ∧ M 89 (60 * v + k) = M 89 (60 * w + k) then 1 else 0
def maF (M : Mem) (k v : Nat) : Nat → Bool := fun w => decide (v = w ∨ M 89 (60 * v + k) = -1 ∨ M 89 (60 * w + k) = -1 ∨ ¬ M 77 (cd (M 89 (60 * v + k)) * 4 + cd (M 89 (60 * w + k))) ≤ 0)
theorem l_mmark2 {M : Mem} {n k v : Nat} {m g : Int32} {A : Bool} {Post : Option Value → Mem → Prop} (hn : M 72 0 = nI n) (hn5 : n ≤ 5) (hk : k < 60) (hc : ∀ a, a < n → okc (M 89 (60 * a + k))) (hv : v < n) (hp : G mX7_mark 32 [some (.ref 72), some (.int (nI k)), some (.int (if m < psum (mcF M k v) n then psum (mcF M k v) n else m)), some (.int g), some (.int (bI (A && allB (maF M k v) n))), some (.int (nI (v + 1))), none, none, none, none] [] M Post) : ∀ d w, d = n - w → w ≤ n → G mX7_mark 77 [some (.ref 72), some (.int (nI k)), some (.int m), some (.int g), some (.int (bI (A && allB (maF M k v) w))), some (.int (nI v)), some (.int (M 89 (60 * v + k))), some (.int (psum (mcF M k v) w)), some (.int (nI w)), none] [] M Post := by
  intro d
  induction d using Nat.strongRecOn with
  | ind d ih =>
    intro w hd hw
    refine blk 7 [(.iload 8, 0, 0, 0), (.aload_n 0, 0, 0, 0), (.getfield 103, 7, 0, 0)] [] (by decide +kernel) rfl (pc' := 83) (ls' := [some (.ref 72), some (.int (nI k)), some (.int m), some (.int g), some (.int (bI (A && allB (maF M k v) w))), some (.int (nI v)), some (.int (M 89 (60 * v + k))), some (.int (psum (mcF M k v) w)), some (.int (nI w)), none]) (st' := [.int (M 72 0), .int (nI w)]) (M' := M) rfl ⟨trivial, trivial, rfl, trivial⟩ ?_
    refine g_icmp_ge (off := 92) (tgt := 175) (by decide +kernel) (by decide) (fun c1 => ?_) (fun c1 => ?_)
    · have nc1 : n ≤ w := (nI_leI (by omega) (by omega)).mp (by simpa only [hn, nI_add, pk_mul, nI_s1, n0_lit] using c1)
      refine blk 7 [(.iload 7, 0, 0, 0), (.iload_n 2, 0, 0, 0)] [] (by decide +kernel) rfl (pc' := 178) (ls' := [some (.ref 72), some (.int (nI k)), some (.int m), some (.int g), some (.int (bI (A && allB (maF M k v) w))), some (.int (nI v)), some (.int (M 89 (60 * v + k))), some (.int (psum (mcF M k v) w)), some (.int (nI w)), none]) (st' := [.int m, .int (psum (mcF M k v) w)]) (M' := M) rfl ⟨trivial, trivial, trivial⟩ ?_
      refine g_icmp_le (off := 8) (tgt := 186) (by decide +kernel) (by decide) (fun c2 => ?_) (fun c2 => ?_)
      · refine blk 7 [(.iload_n 2, 0, 0, 0), (.istore_n 2, 0, 0, 0), (.iinc 5 1, 0, 0, (nI 1)), (.goto (-159), 32, 0, 0)] [] (by decide +kernel) rfl (pc' := 32) (ls' := [some (.ref 72), some (.int (nI k)), some (.int m), some (.int g), some (.int (bI (A && allB (maF M k v) w))), some (.int (nI v + nI 1)), some (.int (M 89 (60 * v + k))), some (.int (psum (mcF M k v) w)), some (.int (nI w)), none]) (st' := []) (M' := M) rfl ⟨trivial, trivial, trivial, trivial, trivial⟩ ?_
        have e : w = n := by omega
        subst e
        refine G.sub (ls' := [some (.ref 72), some (.int (nI k)), some (.int (if m < psum (mcF M k v) w then psum (mcF M k v) w else m)), some (.int g), some (.int (bI (A && allB (maF M k v) w))), some (.int (nI (v + 1))), none, none, none, none]) ?_ ⟨rfl, rfl, congrArg (fun z => some (Value.int z)) (if_neg (Int32.not_lt.mpr (by assumption))).symm, rfl, rfl, congrArg (fun z => some (Value.int z)) (by simp only [nI_add, nI_s1]), trivial⟩
        exact hp
      · refine blk 7 [(.iload 7, 0, 0, 0), (.goto (4), 187, 0, 0), (.istore_n 2, 0, 0, 0), (.iinc 5 1, 0, 0, (nI 1)), (.goto (-159), 32, 0, 0)] [] (by decide +kernel) rfl (pc' := 32) (ls' := [some (.ref 72), some (.int (nI k)), some (.int (psum (mcF M k v) w)), some (.int g), some (.int (bI (A && allB (maF M k v) w))), some (.int (nI v + nI 1)), some (.int (M 89 (60 * v + k))), some (.int (psum (mcF M k v) w)), some (.int (nI w)), none]) (st' := []) (M' := M) rfl ⟨trivial, trivial, trivial, trivial, trivial, trivial⟩ ?_
        have e : w = n := by omega
        subst e
        refine G.sub (ls' := [some (.ref 72), some (.int (nI k)), some (.int (if m < psum (mcF M k v) w then psum (mcF M k v) w else m)), some (.int g), some (.int (bI (A && allB (maF M k v) w))), some (.int (nI (v + 1))), none, none, none, none]) ?_ ⟨rfl, rfl, congrArg (fun z => some (Value.int z)) (if_pos (Int32.not_le.mp (by assumption))).symm, rfl, rfl, congrArg (fun z => some (Value.int z)) (by simp only [nI_add, nI_s1]), trivial⟩
        exact hp
    · have nc1 : w < n := by
        have z : ¬ nI n ≤ nI w := by simpa only [hn, nI_add, pk_mul, nI_s1, n0_lit] using c1
        rw [nI_leI (by omega) (by omega)] at z
        omega
      refine blk 7 [(.aload_n 0, 0, 0, 0), (.getfield 62, 7, 24, 0), (.bipush 60, 0, 0, (nI 60)), (.iload 8, 0, 0, 0), (.imul, 0, 0, 0), (.iload_n 1, 0, 0, 0), (.iadd, 0, 0, 0), (.iaload, 0, 0, 0), (.istore 9, 0, 0, 0), (.iload 7, 0, 0, 0), (.iload 6, 0, 0, 0), (.iconst (-1), 0, 0, (-1))] [60 * w + k] (by decide +kernel) rfl (pc' := 105) (ls' := [some (.ref 72), some (.int (nI k)), some (.int m), some (.int g), some (.int (bI (A && allB (maF M k v) w))), some (.int (nI v)), some (.int (M 89 (60 * v + k))), some (.int (psum (mcF M k v) w)), some (.int (nI w)), some (.int (M 89 (60 * w + k)))]) (st' := [.int (-1), .int (M 89 (60 * v + k)), .int (psum (mcF M k v) w)]) (M' := M) rfl ⟨trivial, rfl, trivial, trivial, trivial, trivial, trivial, ⟨(by simp only [hn, nI_add, pk_mul, nI_s1, Nat.reduceAdd, Nat.reduceMul]), (by show _ < 300; omega)⟩, trivial, trivial, trivial, trivial, trivial⟩ ?_
      refine g_icmp_eq (off := 14) (tgt := 119) (by decide +kernel) (by decide) (fun c3 => ?_) (fun c3 => ?_)
      · refine blk 7 [(.iconst 0, 0, 0, (nI 0)), (.iadd, 0, 0, 0), (.istore 7, 0, 0, 0), (.iload 4, 0, 0, 0)] [] (by decide +kernel) rfl (pc' := 125) (ls' := [some (.ref 72), some (.int (nI k)), some (.int m), some (.int g), some (.int (bI (A && allB (maF M k v) w))), some (.int (nI v)), some (.int (M 89 (60 * v + k))), some (.int ((psum (mcF M k v) w) + (nI 0))), some (.int (nI w)), some (.int (M 89 (60 * w + k)))]) (st' := [.int (bI (A && allB (maF M k v) w))]) (M' := M) rfl ⟨trivial, trivial, trivial, trivial, trivial⟩ ?_
        refine g_if_eq (off := 41) (tgt := 166) (by decide +kernel) (by decide) (fun c4 => ?_) (fun c4 => ?_)
        · refine blk 7 [(.iconst 0, 0, 0, (nI 0)), (.istore 4, 0, 0, 0), (.iinc 8 1, 0, 0, (nI 1)), (.goto (-95), 77, 0, 0)] [] (by decide +kernel) rfl (pc' := 77) (ls' := [some (.ref 72), some (.int (nI k)), some (.int m), some (.int g), some (.int (nI 0)), some (.int (nI v)), some (.int (M 89 (60 * v + k))), some (.int ((psum (mcF M k v) w) + (nI 0))), some (.int (nI w + nI 1)), some (.int (M 89 (60 * w + k)))]) (st' := []) (M' := M) rfl ⟨trivial, trivial, trivial, trivial, trivial⟩ ?_
          have e7 : (psum (mcF M k v) w) + (nI 0) = psum (mcF M k v) (w + 1) := by rw [psum]; congr 1; unfold mcF; rw [if_neg (fun z => by first | exact z.1 (by assumption) | exact absurd z.2 (by assumption))]; exact nI_0
          have e4 : nI 0 = bI (A && allB (maF M k v) (w + 1)) := by rw [allB, ← Bool.and_assoc, bI_eq (b := A && allB (maF M k v) w) (by assumption)]; exact nI_0
          refine G.sub (ls' := [some (.ref 72), some (.int (nI k)), some (.int m), some (.int g), some (.int (bI (A && allB (maF M k v) (w + 1)))), some (.int (nI v)), some (.int (M 89 (60 * v + k))), some (.int (psum (mcF M k v) (w + 1))), some (.int (nI (w + 1))), none]) ?_ ⟨rfl, rfl, rfl, rfl, congrArg (fun z => some (Value.int z)) e4, rfl, rfl, congrArg (fun z => some (Value.int z)) e7, congrArg (fun z => some (Value.int z)) (by simp only [nI_add, nI_s1]), trivial⟩
          exact ih (d - 1) (by omega) (w + 1) (by omega) (by omega)
        · refine blk 7 [(.iload 5, 0, 0, 0), (.iload 8, 0, 0, 0)] [] (by decide +kernel) rfl (pc' := 132) (ls' := [some (.ref 72), some (.int (nI k)), some (.int m), some (.int g), some (.int (bI (A && allB (maF M k v) w))), some (.int (nI v)), some (.int (M 89 (60 * v + k))), some (.int ((psum (mcF M k v) w) + (nI 0))), some (.int (nI w)), some (.int (M 89 (60 * w + k)))]) (st' := [.int (nI w), .int (nI v)]) (M' := M) rfl ⟨trivial, trivial, trivial⟩ ?_
          refine g_icmp_eq (off := 30) (tgt := 162) (by decide +kernel) (by decide) (fun c5 => ?_) (fun c5 => ?_)
          · have nc5 : v = w := (nI_eq (by omega) (by omega)).mp (by simpa only [hn, nI_add, pk_mul, nI_s1, n0_lit] using c5)
            refine blk 7 [(.iconst 1, 0, 0, (nI 1)), (.goto (4), 167, 0, 0), (.istore 4, 0, 0, 0), (.iinc 8 1, 0, 0, (nI 1)), (.goto (-95), 77, 0, 0)] [] (by decide +kernel) rfl (pc' := 77) (ls' := [some (.ref 72), some (.int (nI k)), some (.int m), some (.int g), some (.int (nI 1)), some (.int (nI v)), some (.int (M 89 (60 * v + k))), some (.int ((psum (mcF M k v) w) + (nI 0))), some (.int (nI w + nI 1)), some (.int (M 89 (60 * w + k)))]) (st' := []) (M' := M) rfl ⟨trivial, trivial, trivial, trivial, trivial, trivial⟩ ?_
            have e7 : (psum (mcF M k v) w) + (nI 0) = psum (mcF M k v) (w + 1) := by rw [psum]; congr 1; unfold mcF; rw [if_neg (fun z => by first | exact z.1 (by assumption) | exact absurd z.2 (by assumption))]; exact nI_0
            have e4 : nI 1 = bI (A && allB (maF M k v) (w + 1)) := by rw [allB, ← Bool.and_assoc, bI_ne (b := A && allB (maF M k v) w) (by assumption), show maF M k v w = true from decide_eq_true (by first | exact Or.inl (by omega) | exact Or.inr (Or.inl (by assumption)) | exact Or.inr (Or.inr (Or.inl (by assumption))) | exact Or.inr (Or.inr (Or.inr (by assumption))))]; exact n1_lit
            refine G.sub (ls' := [some (.ref 72), some (.int (nI k)), some (.int m), some (.int g), some (.int (bI (A && allB (maF M k v) (w + 1)))), some (.int (nI v)), some (.int (M 89 (60 * v + k))), some (.int (psum (mcF M k v) (w + 1))), some (.int (nI (w + 1))), none]) ?_ ⟨rfl, rfl, rfl, rfl, congrArg (fun z => some (Value.int z)) e4, rfl, rfl, congrArg (fun z => some (Value.int z)) e7, congrArg (fun z => some (Value.int z)) (by simp only [nI_add, nI_s1]), trivial⟩
            exact ih (d - 1) (by omega) (w + 1) (by omega) (by omega)
          · have nc5 : v ≠ w := by
              have z : ¬ nI v = nI w := by simpa only [hn, nI_add, pk_mul, nI_s1, n0_lit] using c5
              rw [nI_eq (by omega) (by omega)] at z
              omega
            refine blk 7 [(.iload 6, 0, 0, 0), (.iconst (-1), 0, 0, (-1))] [] (by decide +kernel) rfl (pc' := 138) (ls' := [some (.ref 72), some (.int (nI k)), some (.int m), some (.int g), some (.int (bI (A && allB (maF M k v) w))), some (.int (nI v)), some (.int (M 89 (60 * v + k))), some (.int ((psum (mcF M k v) w) + (nI 0))), some (.int (nI w)), some (.int (M 89 (60 * w + k)))]) (st' := [.int (-1), .int (M 89 (60 * v + k))]) (M' := M) rfl ⟨trivial, trivial, trivial⟩ ?_
            refine g_icmp_eq (off := 24) (tgt := 162) (by decide +kernel) (by decide) (fun c6 => ?_) (fun c6 => ?_)
            · refine blk 7 [(.iconst 1, 0, 0, (nI 1)), (.goto (4), 167, 0, 0), (.istore 4, 0, 0, 0), (.iinc 8 1, 0, 0, (nI 1)), (.goto (-95), 77, 0, 0)] [] (by decide +kernel) rfl (pc' := 77) (ls' := [some (.ref 72), some (.int (nI k)), some (.int m), some (.int g), some (.int (nI 1)), some (.int (nI v)), some (.int (M 89 (60 * v + k))), some (.int ((psum (mcF M k v) w) + (nI 0))), some (.int (nI w + nI 1)), some (.int (M 89 (60 * w + k)))]) (st' := []) (M' := M) rfl ⟨trivial, trivial, trivial, trivial, trivial, trivial⟩ ?_
              have e7 : (psum (mcF M k v) w) + (nI 0) = psum (mcF M k v) (w + 1) := by rw [psum]; congr 1; unfold mcF; rw [if_neg (fun z => by first | exact z.1 (by assumption) | exact absurd z.2 (by assumption))]; exact nI_0
              have e4 : nI 1 = bI (A && allB (maF M k v) (w + 1)) := by rw [allB, ← Bool.and_assoc, bI_ne (b := A && allB (maF M k v) w) (by assumption), show maF M k v w = true from decide_eq_true (by first | exact Or.inl (by omega) | exact Or.inr (Or.inl (by assumption)) | exact Or.inr (Or.inr (Or.inl (by assumption))) | exact Or.inr (Or.inr (Or.inr (by assumption))))]; exact n1_lit
              refine G.sub (ls' := [some (.ref 72), some (.int (nI k)), some (.int m), some (.int g), some (.int (bI (A && allB (maF M k v) (w + 1)))), some (.int (nI v)), some (.int (M 89 (60 * v + k))), some (.int (psum (mcF M k v) (w + 1))), some (.int (nI (w + 1))), none]) ?_ ⟨rfl, rfl, rfl, rfl, congrArg (fun z => some (Value.int z)) e4, rfl, rfl, congrArg (fun z => some (Value.int z)) e7, congrArg (fun z => some (Value.int z)) (by simp only [nI_add, nI_s1]), trivial⟩
              exact ih (d - 1) (by omega) (w + 1) (by omega) (by omega)
            · exact absurd c3 c6
      · refine blk 7 [(.iload 6, 0, 0, 0), (.iload 9, 0, 0, 0)] [] (by decide +kernel) rfl (pc' := 112) (ls' := [some (.ref 72), some (.int (nI k)), some (.int m), some (.int g), some (.int (bI (A && allB (maF M k v) w))), some (.int (nI v)), some (.int (M 89 (60 * v + k))), some (.int (psum (mcF M k v) w)), some (.int (nI w)), some (.int (M 89 (60 * w + k)))]) (st' := [.int (M 89 (60 * w + k)), .int (M 89 (60 * v + k)), .int (psum (mcF M k v) w)]) (M' := M) rfl ⟨trivial, trivial, trivial⟩ ?_
        refine g_icmp_ne (off := 7) (tgt := 119) (by decide +kernel) (by decide) (fun c7 => ?_) (fun c7 => ?_)
        · refine blk 7 [(.iconst 0, 0, 0, (nI 0)), (.iadd, 0, 0, 0), (.istore 7, 0, 0, 0), (.iload 4, 0, 0, 0)] [] (by decide +kernel) rfl (pc' := 125) (ls' := [some (.ref 72), some (.int (nI k)), some (.int m), some (.int g), some (.int (bI (A && allB (maF M k v) w))), some (.int (nI v)), some (.int (M 89 (60 * v + k))), some (.int ((psum (mcF M k v) w) + (nI 0))), some (.int (nI w)), some (.int (M 89 (60 * w + k)))]) (st' := [.int (bI (A && allB (maF M k v) w))]) (M' := M) rfl ⟨trivial, trivial, trivial, trivial, trivial⟩ ?_
          refine g_if_eq (off := 41) (tgt := 166) (by decide +kernel) (by decide) (fun c8 => ?_) (fun c8 => ?_)
          · refine blk 7 [(.iconst 0, 0, 0, (nI 0)), (.istore 4, 0, 0, 0), (.iinc 8 1, 0, 0, (nI 1)), (.goto (-95), 77, 0, 0)] [] (by decide +kernel) rfl (pc' := 77) (ls' := [some (.ref 72), some (.int (nI k)), some (.int m), some (.int g), some (.int (nI 0)), some (.int (nI v)), some (.int (M 89 (60 * v + k))), some (.int ((psum (mcF M k v) w) + (nI 0))), some (.int (nI w + nI 1)), some (.int (M 89 (60 * w + k)))]) (st' := []) (M' := M) rfl ⟨trivial, trivial, trivial, trivial, trivial⟩ ?_
            have e7 : (psum (mcF M k v) w) + (nI 0) = psum (mcF M k v) (w + 1) := by rw [psum]; congr 1; unfold mcF; rw [if_neg (fun z => by first | exact z.1 (by assumption) | exact absurd z.2 (by assumption))]; exact nI_0
            have e4 : nI 0 = bI (A && allB (maF M k v) (w + 1)) := by rw [allB, ← Bool.and_assoc, bI_eq (b := A && allB (maF M k v) w) (by assumption)]; exact nI_0
            refine G.sub (ls' := [some (.ref 72), some (.int (nI k)), some (.int m), some (.int g), some (.int (bI (A && allB (maF M k v) (w + 1)))), some (.int (nI v)), some (.int (M 89 (60 * v + k))), some (.int (psum (mcF M k v) (w + 1))), some (.int (nI (w + 1))), none]) ?_ ⟨rfl, rfl, rfl, rfl, congrArg (fun z => some (Value.int z)) e4, rfl, rfl, congrArg (fun z => some (Value.int z)) e7, congrArg (fun z => some (Value.int z)) (by simp only [nI_add, nI_s1]), trivial⟩
            exact ih (d - 1) (by omega) (w + 1) (by omega) (by omega)
          · refine blk 7 [(.iload 5, 0, 0, 0), (.iload 8, 0, 0, 0)] [] (by decide +kernel) rfl (pc' := 132) (ls' := [some (.ref 72), some (.int (nI k)), some (.int m), some (.int g), some (.int (bI (A && allB (maF M k v) w))), some (.int (nI v)), some (.int (M 89 (60 * v + k))), some (.int ((psum (mcF M k v) w) + (nI 0))), some (.int (nI w)), some (.int (M 89 (60 * w + k)))]) (st' := [.int (nI w), .int (nI v)]) (M' := M) rfl ⟨trivial, trivial, trivial⟩ ?_
            refine g_icmp_eq (off := 30) (tgt := 162) (by decide +kernel) (by decide) (fun c9 => ?_) (fun c9 => ?_)
            · have nc9 : v = w := (nI_eq (by omega) (by omega)).mp (by simpa only [hn, nI_add, pk_mul, nI_s1, n0_lit] using c9)
              refine blk 7 [(.iconst 1, 0, 0, (nI 1)), (.goto (4), 167, 0, 0), (.istore 4, 0, 0, 0), (.iinc 8 1, 0, 0, (nI 1)), (.goto (-95), 77, 0, 0)] [] (by decide +kernel) rfl (pc' := 77) (ls' := [some (.ref 72), some (.int (nI k)), some (.int m), some (.int g), some (.int (nI 1)), some (.int (nI v)), some (.int (M 89 (60 * v + k))), some (.int ((psum (mcF M k v) w) + (nI 0))), some (.int (nI w + nI 1)), some (.int (M 89 (60 * w + k)))]) (st' := []) (M' := M) rfl ⟨trivial, trivial, trivial, trivial, trivial, trivial⟩ ?_
              have e7 : (psum (mcF M k v) w) + (nI 0) = psum (mcF M k v) (w + 1) := by rw [psum]; congr 1; unfold mcF; rw [if_neg (fun z => by first | exact z.1 (by assumption) | exact absurd z.2 (by assumption))]; exact nI_0
              have e4 : nI 1 = bI (A && allB (maF M k v) (w + 1)) := by rw [allB, ← Bool.and_assoc, bI_ne (b := A && allB (maF M k v) w) (by assumption), show maF M k v w = true from decide_eq_true (by first | exact Or.inl (by omega) | exact Or.inr (Or.inl (by assumption)) | exact Or.inr (Or.inr (Or.inl (by assumption))) | exact Or.inr (Or.inr (Or.inr (by assumption))))]; exact n1_lit
              refine G.sub (ls' := [some (.ref 72), some (.int (nI k)), some (.int m), some (.int g), some (.int (bI (A && allB (maF M k v) (w + 1)))), some (.int (nI v)), some (.int (M 89 (60 * v + k))), some (.int (psum (mcF M k v) (w + 1))), some (.int (nI (w + 1))), none]) ?_ ⟨rfl, rfl, rfl, rfl, congrArg (fun z => some (Value.int z)) e4, rfl, rfl, congrArg (fun z => some (Value.int z)) e7, congrArg (fun z => some (Value.int z)) (by simp only [nI_add, nI_s1]), trivial⟩
              exact ih (d - 1) (by omega) (w + 1) (by omega) (by omega)
            · have nc9 : v ≠ w := by
                have z : ¬ nI v = nI w := by simpa only [hn, nI_add, pk_mul, nI_s1, n0_lit] using c9
                rw [nI_eq (by omega) (by omega)] at z
                omega
              refine blk 7 [(.iload 6, 0, 0, 0), (.iconst (-1), 0, 0, (-1))] [] (by decide +kernel) rfl (pc' := 138) (ls' := [some (.ref 72), some (.int (nI k)), some (.int m), some (.int g), some (.int (bI (A && allB (maF M k v) w))), some (.int (nI v)), some (.int (M 89 (60 * v + k))), some (.int ((psum (mcF M k v) w) + (nI 0))), some (.int (nI w)), some (.int (M 89 (60 * w + k)))]) (st' := [.int (-1), .int (M 89 (60 * v + k))]) (M' := M) rfl ⟨trivial, trivial, trivial⟩ ?_
              refine g_icmp_eq (off := 24) (tgt := 162) (by decide +kernel) (by decide) (fun c10 => ?_) (fun c10 => ?_)
              · exact absurd c10 c3
              · refine blk 7 [(.iload 9, 0, 0, 0), (.iconst (-1), 0, 0, (-1))] [] (by decide +kernel) rfl (pc' := 144) (ls' := [some (.ref 72), some (.int (nI k)), some (.int m), some (.int g), some (.int (bI (A && allB (maF M k v) w))), some (.int (nI v)), some (.int (M 89 (60 * v + k))), some (.int ((psum (mcF M k v) w) + (nI 0))), some (.int (nI w)), some (.int (M 89 (60 * w + k)))]) (st' := [.int (-1), .int (M 89 (60 * w + k))]) (M' := M) rfl ⟨trivial, trivial, trivial⟩ ?_
                refine g_icmp_eq (off := 18) (tgt := 162) (by decide +kernel) (by decide) (fun c11 => ?_) (fun c11 => ?_)
                · refine blk 7 [(.iconst 1, 0, 0, (nI 1)), (.goto (4), 167, 0, 0), (.istore 4, 0, 0, 0), (.iinc 8 1, 0, 0, (nI 1)), (.goto (-95), 77, 0, 0)] [] (by decide +kernel) rfl (pc' := 77) (ls' := [some (.ref 72), some (.int (nI k)), some (.int m), some (.int g), some (.int (nI 1)), some (.int (nI v)), some (.int (M 89 (60 * v + k))), some (.int ((psum (mcF M k v) w) + (nI 0))), some (.int (nI w + nI 1)), some (.int (M 89 (60 * w + k)))]) (st' := []) (M' := M) rfl ⟨trivial, trivial, trivial, trivial, trivial, trivial⟩ ?_
                  have e7 : (psum (mcF M k v) w) + (nI 0) = psum (mcF M k v) (w + 1) := by rw [psum]; congr 1; unfold mcF; rw [if_neg (fun z => by first | exact z.1 (by assumption) | exact absurd z.2 (by assumption))]; exact nI_0
                  have e4 : nI 1 = bI (A && allB (maF M k v) (w + 1)) := by rw [allB, ← Bool.and_assoc, bI_ne (b := A && allB (maF M k v) w) (by assumption), show maF M k v w = true from decide_eq_true (by first | exact Or.inl (by omega) | exact Or.inr (Or.inl (by assumption)) | exact Or.inr (Or.inr (Or.inl (by assumption))) | exact Or.inr (Or.inr (Or.inr (by assumption))))]; exact n1_lit
                  refine G.sub (ls' := [some (.ref 72), some (.int (nI k)), some (.int m), some (.int g), some (.int (bI (A && allB (maF M k v) (w + 1)))), some (.int (nI v)), some (.int (M 89 (60 * v + k))), some (.int (psum (mcF M k v) (w + 1))), some (.int (nI (w + 1))), none]) ?_ ⟨rfl, rfl, rfl, rfl, congrArg (fun z => some (Value.int z)) e4, rfl, rfl, congrArg (fun z => some (Value.int z)) e7, congrArg (fun z => some (Value.int z)) (by simp only [nI_add, nI_s1]), trivial⟩
                  exact ih (d - 1) (by omega) (w + 1) (by omega) (by omega)
                · have ex := okc_cd (hc v (by omega)) c3
                  have ey := okc_cd (hc w (by omega)) c11
                  refine blk 7 [(.aload_n 0, 0, 0, 0), (.getfield 19, 7, 5, 0), (.iconst 4, 0, 0, (nI 4)), (.iload 6, 0, 0, 0), (.imul, 0, 0, 0), (.iload 9, 0, 0, 0), (.iadd, 0, 0, 0), (.iaload, 0, 0, 0)] [cd (M 89 (60 * v + k)) * 4 + cd (M 89 (60 * w + k))] (by decide +kernel) rfl (pc' := 159) (ls' := [some (.ref 72), some (.int (nI k)), some (.int m), some (.int g), some (.int (bI (A && allB (maF M k v) w))), some (.int (nI v)), some (.int (M 89 (60 * v + k))), some (.int ((psum (mcF M k v) w) + (nI 0))), some (.int (nI w)), some (.int (M 89 (60 * w + k)))]) (st' := [.int (M 77 (cd (M 89 (60 * v + k)) * 4 + cd (M 89 (60 * w + k))))]) (M' := M) rfl ⟨trivial, rfl, trivial, trivial, trivial, trivial, trivial, ⟨(ixm ex.1 ey.1), (by show _ < 16; omega)⟩, trivial⟩ ?_
                  refine g_if_le (off := 7) (tgt := 166) (by decide +kernel) (by decide) (fun c12 => ?_) (fun c12 => ?_)
                  · refine blk 7 [(.iconst 0, 0, 0, (nI 0)), (.istore 4, 0, 0, 0), (.iinc 8 1, 0, 0, (nI 1)), (.goto (-95), 77, 0, 0)] [] (by decide +kernel) rfl (pc' := 77) (ls' := [some (.ref 72), some (.int (nI k)), some (.int m), some (.int g), some (.int (nI 0)), some (.int (nI v)), some (.int (M 89 (60 * v + k))), some (.int ((psum (mcF M k v) w) + (nI 0))), some (.int (nI w + nI 1)), some (.int (M 89 (60 * w + k)))]) (st' := []) (M' := M) rfl ⟨trivial, trivial, trivial, trivial, trivial⟩ ?_
                    have e7 : (psum (mcF M k v) w) + (nI 0) = psum (mcF M k v) (w + 1) := by rw [psum]; congr 1; unfold mcF; rw [if_neg (fun z => by first | exact z.1 (by assumption) | exact absurd z.2 (by assumption))]; exact nI_0
                    have e4 : nI 0 = bI (A && allB (maF M k v) (w + 1)) := by rw [allB, show maF M k v w = false from decide_eq_false (fun z => by rcases z with z | z | z | z; omega; contradiction; contradiction; contradiction), Bool.and_false, Bool.and_false]; exact nI_0
                    refine G.sub (ls' := [some (.ref 72), some (.int (nI k)), some (.int m), some (.int g), some (.int (bI (A && allB (maF M k v) (w + 1)))), some (.int (nI v)), some (.int (M 89 (60 * v + k))), some (.int (psum (mcF M k v) (w + 1))), some (.int (nI (w + 1))), none]) ?_ ⟨rfl, rfl, rfl, rfl, congrArg (fun z => some (Value.int z)) e4, rfl, rfl, congrArg (fun z => some (Value.int z)) e7, congrArg (fun z => some (Value.int z)) (by simp only [nI_add, nI_s1]), trivial⟩
                    exact ih (d - 1) (by omega) (w + 1) (by omega) (by omega)
                  · refine blk 7 [(.iconst 1, 0, 0, (nI 1)), (.goto (4), 167, 0, 0), (.istore 4, 0, 0, 0), (.iinc 8 1, 0, 0, (nI 1)), (.goto (-95), 77, 0, 0)] [] (by decide +kernel) rfl (pc' := 77) (ls' := [some (.ref 72), some (.int (nI k)), some (.int m), some (.int g), some (.int (nI 1)), some (.int (nI v)), some (.int (M 89 (60 * v + k))), some (.int ((psum (mcF M k v) w) + (nI 0))), some (.int (nI w + nI 1)), some (.int (M 89 (60 * w + k)))]) (st' := []) (M' := M) rfl ⟨trivial, trivial, trivial, trivial, trivial, trivial⟩ ?_
                    have e7 : (psum (mcF M k v) w) + (nI 0) = psum (mcF M k v) (w + 1) := by rw [psum]; congr 1; unfold mcF; rw [if_neg (fun z => by first | exact z.1 (by assumption) | exact absurd z.2 (by assumption))]; exact nI_0
                    have e4 : nI 1 = bI (A && allB (maF M k v) (w + 1)) := by rw [allB, ← Bool.and_assoc, bI_ne (b := A && allB (maF M k v) w) (by assumption), show maF M k v w = true from decide_eq_true (by first | exact Or.inl (by omega) | exact Or.inr (Or.inl (by assumption)) | exact Or.inr (Or.inr (Or.inl (by assumption))) | exact Or.inr (Or.inr (Or.inr (by assumption))))]; exact n1_lit
                    refine G.sub (ls' := [some (.ref 72), some (.int (nI k)), some (.int m), some (.int g), some (.int (bI (A && allB (maF M k v) (w + 1)))), some (.int (nI v)), some (.int (M 89 (60 * v + k))), some (.int (psum (mcF M k v) (w + 1))), some (.int (nI (w + 1))), none]) ?_ ⟨rfl, rfl, rfl, rfl, congrArg (fun z => some (Value.int z)) e4, rfl, rfl, congrArg (fun z => some (Value.int z)) e7, congrArg (fun z => some (Value.int z)) (by simp only [nI_add, nI_s1]), trivial⟩
                    exact ih (d - 1) (by omega) (w + 1) (by omega) (by omega)
        · refine blk 7 [(.iconst 1, 0, 0, (nI 1)), (.goto (4), 120, 0, 0), (.iadd, 0, 0, 0), (.istore 7, 0, 0, 0), (.iload 4, 0, 0, 0)] [] (by decide +kernel) rfl (pc' := 125) (ls' := [some (.ref 72), some (.int (nI k)), some (.int m), some (.int g), some (.int (bI (A && allB (maF M k v) w))), some (.int (nI v)), some (.int (M 89 (60 * v + k))), some (.int ((psum (mcF M k v) w) + (nI 1))), some (.int (nI w)), some (.int (M 89 (60 * w + k)))]) (st' := [.int (bI (A && allB (maF M k v) w))]) (M' := M) rfl ⟨trivial, trivial, trivial, trivial, trivial, trivial⟩ ?_
          refine g_if_eq (off := 41) (tgt := 166) (by decide +kernel) (by decide) (fun c13 => ?_) (fun c13 => ?_)
          · refine blk 7 [(.iconst 0, 0, 0, (nI 0)), (.istore 4, 0, 0, 0), (.iinc 8 1, 0, 0, (nI 1)), (.goto (-95), 77, 0, 0)] [] (by decide +kernel) rfl (pc' := 77) (ls' := [some (.ref 72), some (.int (nI k)), some (.int m), some (.int g), some (.int (nI 0)), some (.int (nI v)), some (.int (M 89 (60 * v + k))), some (.int ((psum (mcF M k v) w) + (nI 1))), some (.int (nI w + nI 1)), some (.int (M 89 (60 * w + k)))]) (st' := []) (M' := M) rfl ⟨trivial, trivial, trivial, trivial, trivial⟩ ?_
            have e7 : (psum (mcF M k v) w) + (nI 1) = psum (mcF M k v) (w + 1) := by rw [psum]; congr 1; unfold mcF; rw [if_pos ⟨by assumption, by assumption⟩]; exact n1_lit
            have e4 : nI 0 = bI (A && allB (maF M k v) (w + 1)) := by rw [allB, ← Bool.and_assoc, bI_eq (b := A && allB (maF M k v) w) (by assumption)]; exact nI_0
            refine G.sub (ls' := [some (.ref 72), some (.int (nI k)), some (.int m), some (.int g), some (.int (bI (A && allB (maF M k v) (w + 1)))), some (.int (nI v)), some (.int (M 89 (60 * v + k))), some (.int (psum (mcF M k v) (w + 1))), some (.int (nI (w + 1))), none]) ?_ ⟨rfl, rfl, rfl, rfl, congrArg (fun z => some (Value.int z)) e4, rfl, rfl, congrArg (fun z => some (Value.int z)) e7, congrArg (fun z => some (Value.int z)) (by simp only [nI_add, nI_s1]), trivial⟩
            exact ih (d - 1) (by omega) (w + 1) (by omega) (by omega)
          · refine blk 7 [(.iload 5, 0, 0, 0), (.iload 8, 0, 0, 0)] [] (by decide +kernel) rfl (pc' := 132) (ls' := [some (.ref 72), some (.int (nI k)), some (.int m), some (.int g), some (.int (bI (A && allB (maF M k v) w))), some (.int (nI v)), some (.int (M 89 (60 * v + k))), some (.int ((psum (mcF M k v) w) + (nI 1))), some (.int (nI w)), some (.int (M 89 (60 * w + k)))]) (st' := [.int (nI w), .int (nI v)]) (M' := M) rfl ⟨trivial, trivial, trivial⟩ ?_
            refine g_icmp_eq (off := 30) (tgt := 162) (by decide +kernel) (by decide) (fun c14 => ?_) (fun c14 => ?_)
            · have nc14 : v = w := (nI_eq (by omega) (by omega)).mp (by simpa only [hn, nI_add, pk_mul, nI_s1, n0_lit] using c14)
              refine blk 7 [(.iconst 1, 0, 0, (nI 1)), (.goto (4), 167, 0, 0), (.istore 4, 0, 0, 0), (.iinc 8 1, 0, 0, (nI 1)), (.goto (-95), 77, 0, 0)] [] (by decide +kernel) rfl (pc' := 77) (ls' := [some (.ref 72), some (.int (nI k)), some (.int m), some (.int g), some (.int (nI 1)), some (.int (nI v)), some (.int (M 89 (60 * v + k))), some (.int ((psum (mcF M k v) w) + (nI 1))), some (.int (nI w + nI 1)), some (.int (M 89 (60 * w + k)))]) (st' := []) (M' := M) rfl ⟨trivial, trivial, trivial, trivial, trivial, trivial⟩ ?_
              have e7 : (psum (mcF M k v) w) + (nI 1) = psum (mcF M k v) (w + 1) := by rw [psum]; congr 1; unfold mcF; rw [if_pos ⟨by assumption, by assumption⟩]; exact n1_lit
              have e4 : nI 1 = bI (A && allB (maF M k v) (w + 1)) := by rw [allB, ← Bool.and_assoc, bI_ne (b := A && allB (maF M k v) w) (by assumption), show maF M k v w = true from decide_eq_true (by first | exact Or.inl (by omega) | exact Or.inr (Or.inl (by assumption)) | exact Or.inr (Or.inr (Or.inl (by assumption))) | exact Or.inr (Or.inr (Or.inr (by assumption))))]; exact n1_lit
              refine G.sub (ls' := [some (.ref 72), some (.int (nI k)), some (.int m), some (.int g), some (.int (bI (A && allB (maF M k v) (w + 1)))), some (.int (nI v)), some (.int (M 89 (60 * v + k))), some (.int (psum (mcF M k v) (w + 1))), some (.int (nI (w + 1))), none]) ?_ ⟨rfl, rfl, rfl, rfl, congrArg (fun z => some (Value.int z)) e4, rfl, rfl, congrArg (fun z => some (Value.int z)) e7, congrArg (fun z => some (Value.int z)) (by simp only [nI_add, nI_s1]), trivial⟩
              exact ih (d - 1) (by omega) (w + 1) (by omega) (by omega)
            · have nc14 : v ≠ w := by
                have z : ¬ nI v = nI w := by simpa only [hn, nI_add, pk_mul, nI_s1, n0_lit] using c14
                rw [nI_eq (by omega) (by omega)] at z
                omega
              refine blk 7 [(.iload 6, 0, 0, 0), (.iconst (-1), 0, 0, (-1))] [] (by decide +kernel) rfl (pc' := 138) (ls' := [some (.ref 72), some (.int (nI k)), some (.int m), some (.int g), some (.int (bI (A && allB (maF M k v) w))), some (.int (nI v)), some (.int (M 89 (60 * v + k))), some (.int ((psum (mcF M k v) w) + (nI 1))), some (.int (nI w)), some (.int (M 89 (60 * w + k)))]) (st' := [.int (-1), .int (M 89 (60 * v + k))]) (M' := M) rfl ⟨trivial, trivial, trivial⟩ ?_
              refine g_icmp_eq (off := 24) (tgt := 162) (by decide +kernel) (by decide) (fun c15 => ?_) (fun c15 => ?_)
              · exact absurd c15 c3
              · refine blk 7 [(.iload 9, 0, 0, 0), (.iconst (-1), 0, 0, (-1))] [] (by decide +kernel) rfl (pc' := 144) (ls' := [some (.ref 72), some (.int (nI k)), some (.int m), some (.int g), some (.int (bI (A && allB (maF M k v) w))), some (.int (nI v)), some (.int (M 89 (60 * v + k))), some (.int ((psum (mcF M k v) w) + (nI 1))), some (.int (nI w)), some (.int (M 89 (60 * w + k)))]) (st' := [.int (-1), .int (M 89 (60 * w + k))]) (M' := M) rfl ⟨trivial, trivial, trivial⟩ ?_
                refine g_icmp_eq (off := 18) (tgt := 162) (by decide +kernel) (by decide) (fun c16 => ?_) (fun c16 => ?_)
                · refine blk 7 [(.iconst 1, 0, 0, (nI 1)), (.goto (4), 167, 0, 0), (.istore 4, 0, 0, 0), (.iinc 8 1, 0, 0, (nI 1)), (.goto (-95), 77, 0, 0)] [] (by decide +kernel) rfl (pc' := 77) (ls' := [some (.ref 72), some (.int (nI k)), some (.int m), some (.int g), some (.int (nI 1)), some (.int (nI v)), some (.int (M 89 (60 * v + k))), some (.int ((psum (mcF M k v) w) + (nI 1))), some (.int (nI w + nI 1)), some (.int (M 89 (60 * w + k)))]) (st' := []) (M' := M) rfl ⟨trivial, trivial, trivial, trivial, trivial, trivial⟩ ?_
                  have e7 : (psum (mcF M k v) w) + (nI 1) = psum (mcF M k v) (w + 1) := by rw [psum]; congr 1; unfold mcF; rw [if_pos ⟨by assumption, by assumption⟩]; exact n1_lit
                  have e4 : nI 1 = bI (A && allB (maF M k v) (w + 1)) := by rw [allB, ← Bool.and_assoc, bI_ne (b := A && allB (maF M k v) w) (by assumption), show maF M k v w = true from decide_eq_true (by first | exact Or.inl (by omega) | exact Or.inr (Or.inl (by assumption)) | exact Or.inr (Or.inr (Or.inl (by assumption))) | exact Or.inr (Or.inr (Or.inr (by assumption))))]; exact n1_lit
                  refine G.sub (ls' := [some (.ref 72), some (.int (nI k)), some (.int m), some (.int g), some (.int (bI (A && allB (maF M k v) (w + 1)))), some (.int (nI v)), some (.int (M 89 (60 * v + k))), some (.int (psum (mcF M k v) (w + 1))), some (.int (nI (w + 1))), none]) ?_ ⟨rfl, rfl, rfl, rfl, congrArg (fun z => some (Value.int z)) e4, rfl, rfl, congrArg (fun z => some (Value.int z)) e7, congrArg (fun z => some (Value.int z)) (by simp only [nI_add, nI_s1]), trivial⟩
                  exact ih (d - 1) (by omega) (w + 1) (by omega) (by omega)
                · have ex := okc_cd (hc v (by omega)) c3
                  have ey := okc_cd (hc w (by omega)) c16
                  refine blk 7 [(.aload_n 0, 0, 0, 0), (.getfield 19, 7, 5, 0), (.iconst 4, 0, 0, (nI 4)), (.iload 6, 0, 0, 0), (.imul, 0, 0, 0), (.iload 9, 0, 0, 0), (.iadd, 0, 0, 0), (.iaload, 0, 0, 0)] [cd (M 89 (60 * v + k)) * 4 + cd (M 89 (60 * w + k))] (by decide +kernel) rfl (pc' := 159) (ls' := [some (.ref 72), some (.int (nI k)), some (.int m), some (.int g), some (.int (bI (A && allB (maF M k v) w))), some (.int (nI v)), some (.int (M 89 (60 * v + k))), some (.int ((psum (mcF M k v) w) + (nI 1))), some (.int (nI w)), some (.int (M 89 (60 * w + k)))]) (st' := [.int (M 77 (cd (M 89 (60 * v + k)) * 4 + cd (M 89 (60 * w + k))))]) (M' := M) rfl ⟨trivial, rfl, trivial, trivial, trivial, trivial, trivial, ⟨(ixm ex.1 ey.1), (by show _ < 16; omega)⟩, trivial⟩ ?_
                  refine g_if_le (off := 7) (tgt := 166) (by decide +kernel) (by decide) (fun c17 => ?_) (fun c17 => ?_)
                  · refine blk 7 [(.iconst 0, 0, 0, (nI 0)), (.istore 4, 0, 0, 0), (.iinc 8 1, 0, 0, (nI 1)), (.goto (-95), 77, 0, 0)] [] (by decide +kernel) rfl (pc' := 77) (ls' := [some (.ref 72), some (.int (nI k)), some (.int m), some (.int g), some (.int (nI 0)), some (.int (nI v)), some (.int (M 89 (60 * v + k))), some (.int ((psum (mcF M k v) w) + (nI 1))), some (.int (nI w + nI 1)), some (.int (M 89 (60 * w + k)))]) (st' := []) (M' := M) rfl ⟨trivial, trivial, trivial, trivial, trivial⟩ ?_
                    have e7 : (psum (mcF M k v) w) + (nI 1) = psum (mcF M k v) (w + 1) := by rw [psum]; congr 1; unfold mcF; rw [if_pos ⟨by assumption, by assumption⟩]; exact n1_lit
                    have e4 : nI 0 = bI (A && allB (maF M k v) (w + 1)) := by rw [allB, show maF M k v w = false from decide_eq_false (fun z => by rcases z with z | z | z | z; omega; contradiction; contradiction; contradiction), Bool.and_false, Bool.and_false]; exact nI_0
                    refine G.sub (ls' := [some (.ref 72), some (.int (nI k)), some (.int m), some (.int g), some (.int (bI (A && allB (maF M k v) (w + 1)))), some (.int (nI v)), some (.int (M 89 (60 * v + k))), some (.int (psum (mcF M k v) (w + 1))), some (.int (nI (w + 1))), none]) ?_ ⟨rfl, rfl, rfl, rfl, congrArg (fun z => some (Value.int z)) e4, rfl, rfl, congrArg (fun z => some (Value.int z)) e7, congrArg (fun z => some (Value.int z)) (by simp only [nI_add, nI_s1]), trivial⟩
                    exact ih (d - 1) (by omega) (w + 1) (by omega) (by omega)
                  · refine blk 7 [(.iconst 1, 0, 0, (nI 1)), (.goto (4), 167, 0, 0), (.istore 4, 0, 0, 0), (.iinc 8 1, 0, 0, (nI 1)), (.goto (-95), 77, 0, 0)] [] (by decide +kernel) rfl (pc' := 77) (ls' := [some (.ref 72), some (.int (nI k)), some (.int m), some (.int g), some (.int (nI 1)), some (.int (nI v)), some (.int (M 89 (60 * v + k))), some (.int ((psum (mcF M k v) w) + (nI 1))), some (.int (nI w + nI 1)), some (.int (M 89 (60 * w + k)))]) (st' := []) (M' := M) rfl ⟨trivial, trivial, trivial, trivial, trivial, trivial⟩ ?_
                    have e7 : (psum (mcF M k v) w) + (nI 1) = psum (mcF M k v) (w + 1) := by rw [psum]; congr 1; unfold mcF; rw [if_pos ⟨by assumption, by assumption⟩]; exact n1_lit
                    have e4 : nI 1 = bI (A && allB (maF M k v) (w + 1)) := by rw [allB, ← Bool.and_assoc, bI_ne (b := A && allB (maF M k v) w) (by assumption), show maF M k v w = true from decide_eq_true (by first | exact Or.inl (by omega) | exact Or.inr (Or.inl (by assumption)) | exact Or.inr (Or.inr (Or.inl (by assumption))) | exact Or.inr (Or.inr (Or.inr (by assumption))))]; exact n1_lit
                    refine G.sub (ls' := [some (.ref 72), some (.int (nI k)), some (.int m), some (.int g), some (.int (bI (A && allB (maF M k v) (w + 1)))), some (.int (nI v)), some (.int (M 89 (60 * v + k))), some (.int (psum (mcF M k v) (w + 1))), some (.int (nI (w + 1))), none]) ?_ ⟨rfl, rfl, rfl, rfl, congrArg (fun z => some (Value.int z)) e4, rfl, rfl, congrArg (fun z => some (Value.int z)) e7, congrArg (fun z => some (Value.int z)) (by simp only [nI_add, nI_s1]), trivial⟩
                    exact ih (d - 1) (by omega) (w + 1) (by omega) (by omega)
theorem l_mmark {M : Mem} {n k : Nat} (hn : M 72 0 = nI n) (hn5 : n ≤ 5) (hk : k < 60) (hc : ∀ a, a < n → okc (M 89 (60 * a + k))) : ∀ d v, d = n - v → v ≤ n → G mX7_mark 32 [some (.ref 72), some (.int (nI k)), some (.int (pmax (fun v => psum (mcF M k v) n) v)), some (.int (bI (anyB (mgF M k) v))), some (.int (bI (allB (fun v => allB (maF M k v) n) v))), some (.int (nI v)), none, none, none, none] [] M (Ret (mkF (pmax (fun v => psum (mcF M k v) n) n) n (!(anyB (mgF M k) n) && allB (fun v => allB (maF M k v) n) n)) M) := by
  intro d
  induction d using Nat.strongRecOn with
  | ind d ih =>
    intro v hd hv
    refine blk 7 [(.iload 5, 0, 0, 0), (.aload_n 0, 0, 0, 0), (.getfield 103, 7, 0, 0)] [] (by decide +kernel) rfl (pc' := 38) (ls' := [some (.ref 72), some (.int (nI k)), some (.int (pmax (fun v => psum (mcF M k v) n) v)), some (.int (bI (anyB (mgF M k) v))), some (.int (bI (allB (fun v => allB (maF M k v) n) v))), some (.int (nI v)), none, none, none, none]) (st' := [.int (M 72 0), .int (nI v)]) (M' := M) rfl ⟨trivial, trivial, rfl, trivial⟩ ?_
    refine g_icmp_ge (off := 156) (tgt := 194) (by decide +kernel) (by decide) (fun c1 => ?_) (fun c1 => ?_)
    · have nc1 : n ≤ v := (nI_leI (by omega) (by omega)).mp (by simpa only [hn, nI_add, pk_mul, nI_s1, n0_lit] using c1)
      refine blk 7 [(.iload_n 2, 0, 0, 0), (.aload_n 0, 0, 0, 0), (.getfield 103, 7, 0, 0)] [] (by decide +kernel) rfl (pc' := 199) (ls' := [some (.ref 72), some (.int (nI k)), some (.int (pmax (fun v => psum (mcF M k v) n) v)), some (.int (bI (anyB (mgF M k) v))), some (.int (bI (allB (fun v => allB (maF M k v) n) v))), some (.int (nI v)), none, none, none, none]) (st' := [.int (M 72 0), .int (pmax (fun v => psum (mcF M k v) n) v)]) (M' := M) rfl ⟨trivial, trivial, rfl, trivial⟩ ?_
      refine g_icmp_ne (off := 8) (tgt := 207) (by decide +kernel) (by decide) (fun c2 => ?_) (fun c2 => ?_)
      · refine blk 7 [(.iload_n 3, 0, 0, 0)] [] (by decide +kernel) rfl (pc' := 208) (ls' := [some (.ref 72), some (.int (nI k)), some (.int (pmax (fun v => psum (mcF M k v) n) v)), some (.int (bI (anyB (mgF M k) v))), some (.int (bI (allB (fun v => allB (maF M k v) n) v))), some (.int (nI v)), none, none, none, none]) (st' := [.int (bI (anyB (mgF M k) v))]) (M' := M) rfl ⟨trivial, trivial⟩ ?_
        refine g_if_ne (off := 13) (tgt := 221) (by decide +kernel) (by decide) (fun c3 => ?_) (fun c3 => ?_)
        · refine blk 7 [(.iconst 2, 0, 0, (nI 2)), (.iload_n 2, 0, 0, 0), (.imul, 0, 0, 0), (.aload_n 0, 0, 0, 0), (.getfield 103, 7, 0, 0)] [] (by decide +kernel) rfl (pc' := 228) (ls' := [some (.ref 72), some (.int (nI k)), some (.int (pmax (fun v => psum (mcF M k v) n) v)), some (.int (bI (anyB (mgF M k) v))), some (.int (bI (allB (fun v => allB (maF M k v) n) v))), some (.int (nI v)), none, none, none, none]) (st' := [.int (M 72 0), .int ((nI 2) * (pmax (fun v => psum (mcF M k v) n) v))]) (M' := M) rfl ⟨trivial, trivial, trivial, trivial, rfl, trivial⟩ ?_
          refine g_icmp_le (off := 8) (tgt := 236) (by decide +kernel) (by decide) (fun c4 => ?_) (fun c4 => ?_)
          · refine blk 7 [(.bipush 32, 0, 0, (nI 32))] [] (by decide +kernel) rfl (pc' := 238) (ls' := [some (.ref 72), some (.int (nI k)), some (.int (pmax (fun v => psum (mcF M k v) n) v)), some (.int (bI (anyB (mgF M k) v))), some (.int (bI (allB (fun v => allB (maF M k v) n) v))), some (.int (nI v)), none, none, none, none]) (st' := [.int (nI 32)]) (M' := M) rfl ⟨trivial, trivial⟩ ?_
            have e : v = n := by omega
            subst e
            refine g_ireturn (by decide +kernel) rfl (by decide +kernel) ⟨?_, rfl⟩
            unfold mkF
            rw [← hn]
            rw [if_neg (by assumption), if_neg (by first | (rw [bI_eq (b := allB (fun u => allB (maF M k u) v) v) (by assumption), Bool.and_false]; simp) | (rw [bI_ne (b := anyB (mgF M k) v) (by assumption)]; simp)), if_pos (by assumption)]
          · refine blk 7 [(.bipush 46, 0, 0, (nI 46)), (.goto (5), 238, 0, 0)] [] (by decide +kernel) rfl (pc' := 238) (ls' := [some (.ref 72), some (.int (nI k)), some (.int (pmax (fun v => psum (mcF M k v) n) v)), some (.int (bI (anyB (mgF M k) v))), some (.int (bI (allB (fun v => allB (maF M k v) n) v))), some (.int (nI v)), none, none, none, none]) (st' := [.int (nI 46)]) (M' := M) rfl ⟨trivial, trivial, trivial⟩ ?_
            have e : v = n := by omega
            subst e
            refine g_ireturn (by decide +kernel) rfl (by decide +kernel) ⟨?_, rfl⟩
            unfold mkF
            rw [← hn]
            rw [if_neg (by assumption), if_neg (by first | (rw [bI_eq (b := allB (fun u => allB (maF M k u) v) v) (by assumption), Bool.and_false]; simp) | (rw [bI_ne (b := anyB (mgF M k) v) (by assumption)]; simp)), if_neg (by assumption)]
        · refine blk 7 [(.iload 4, 0, 0, 0)] [] (by decide +kernel) rfl (pc' := 213) (ls' := [some (.ref 72), some (.int (nI k)), some (.int (pmax (fun v => psum (mcF M k v) n) v)), some (.int (bI (anyB (mgF M k) v))), some (.int (bI (allB (fun v => allB (maF M k v) n) v))), some (.int (nI v)), none, none, none, none]) (st' := [.int (bI (allB (fun v => allB (maF M k v) n) v))]) (M' := M) rfl ⟨trivial, trivial⟩ ?_
          refine g_if_eq (off := 8) (tgt := 221) (by decide +kernel) (by decide) (fun c5 => ?_) (fun c5 => ?_)
          · refine blk 7 [(.iconst 2, 0, 0, (nI 2)), (.iload_n 2, 0, 0, 0), (.imul, 0, 0, 0), (.aload_n 0, 0, 0, 0), (.getfield 103, 7, 0, 0)] [] (by decide +kernel) rfl (pc' := 228) (ls' := [some (.ref 72), some (.int (nI k)), some (.int (pmax (fun v => psum (mcF M k v) n) v)), some (.int (bI (anyB (mgF M k) v))), some (.int (bI (allB (fun v => allB (maF M k v) n) v))), some (.int (nI v)), none, none, none, none]) (st' := [.int (M 72 0), .int ((nI 2) * (pmax (fun v => psum (mcF M k v) n) v))]) (M' := M) rfl ⟨trivial, trivial, trivial, trivial, rfl, trivial⟩ ?_
            refine g_icmp_le (off := 8) (tgt := 236) (by decide +kernel) (by decide) (fun c6 => ?_) (fun c6 => ?_)
            · refine blk 7 [(.bipush 32, 0, 0, (nI 32))] [] (by decide +kernel) rfl (pc' := 238) (ls' := [some (.ref 72), some (.int (nI k)), some (.int (pmax (fun v => psum (mcF M k v) n) v)), some (.int (bI (anyB (mgF M k) v))), some (.int (bI (allB (fun v => allB (maF M k v) n) v))), some (.int (nI v)), none, none, none, none]) (st' := [.int (nI 32)]) (M' := M) rfl ⟨trivial, trivial⟩ ?_
              have e : v = n := by omega
              subst e
              refine g_ireturn (by decide +kernel) rfl (by decide +kernel) ⟨?_, rfl⟩
              unfold mkF
              rw [← hn]
              rw [if_neg (by assumption), if_neg (by first | (rw [bI_eq (b := allB (fun u => allB (maF M k u) v) v) (by assumption), Bool.and_false]; simp) | (rw [bI_ne (b := anyB (mgF M k) v) (by assumption)]; simp)), if_pos (by assumption)]
            · refine blk 7 [(.bipush 46, 0, 0, (nI 46)), (.goto (5), 238, 0, 0)] [] (by decide +kernel) rfl (pc' := 238) (ls' := [some (.ref 72), some (.int (nI k)), some (.int (pmax (fun v => psum (mcF M k v) n) v)), some (.int (bI (anyB (mgF M k) v))), some (.int (bI (allB (fun v => allB (maF M k v) n) v))), some (.int (nI v)), none, none, none, none]) (st' := [.int (nI 46)]) (M' := M) rfl ⟨trivial, trivial, trivial⟩ ?_
              have e : v = n := by omega
              subst e
              refine g_ireturn (by decide +kernel) rfl (by decide +kernel) ⟨?_, rfl⟩
              unfold mkF
              rw [← hn]
              rw [if_neg (by assumption), if_neg (by first | (rw [bI_eq (b := allB (fun u => allB (maF M k u) v) v) (by assumption), Bool.and_false]; simp) | (rw [bI_ne (b := anyB (mgF M k) v) (by assumption)]; simp)), if_neg (by assumption)]
          · refine blk 7 [(.bipush 58, 0, 0, (nI 58)), (.goto (20), 238, 0, 0)] [] (by decide +kernel) rfl (pc' := 238) (ls' := [some (.ref 72), some (.int (nI k)), some (.int (pmax (fun v => psum (mcF M k v) n) v)), some (.int (bI (anyB (mgF M k) v))), some (.int (bI (allB (fun v => allB (maF M k v) n) v))), some (.int (nI v)), none, none, none, none]) (st' := [.int (nI 58)]) (M' := M) rfl ⟨trivial, trivial, trivial⟩ ?_
            have e : v = n := by omega
            subst e
            refine g_ireturn (by decide +kernel) rfl (by decide +kernel) ⟨?_, rfl⟩
            unfold mkF
            rw [← hn]
            rw [if_neg (by assumption), if_pos (by rw [bI_eq (b := anyB (mgF M k) v) (by assumption), bI_ne (b := allB (fun u => allB (maF M k u) v) v) (by assumption)]; rfl)]
      · refine blk 7 [(.bipush 42, 0, 0, (nI 42)), (.goto (34), 238, 0, 0)] [] (by decide +kernel) rfl (pc' := 238) (ls' := [some (.ref 72), some (.int (nI k)), some (.int (pmax (fun v => psum (mcF M k v) n) v)), some (.int (bI (anyB (mgF M k) v))), some (.int (bI (allB (fun v => allB (maF M k v) n) v))), some (.int (nI v)), none, none, none, none]) (st' := [.int (nI 42)]) (M' := M) rfl ⟨trivial, trivial, trivial⟩ ?_
        have e : v = n := by omega
        subst e
        refine g_ireturn (by decide +kernel) rfl (by decide +kernel) ⟨?_, rfl⟩
        unfold mkF
        rw [← hn]
        rw [if_pos (by assumption)]
    · have nc1 : v < n := by
        have z : ¬ nI n ≤ nI v := by simpa only [hn, nI_add, pk_mul, nI_s1, n0_lit] using c1
        rw [nI_leI (by omega) (by omega)] at z
        omega
      refine blk 7 [(.aload_n 0, 0, 0, 0), (.getfield 62, 7, 24, 0), (.bipush 60, 0, 0, (nI 60)), (.iload 5, 0, 0, 0), (.imul, 0, 0, 0), (.iload_n 1, 0, 0, 0), (.iadd, 0, 0, 0), (.iaload, 0, 0, 0), (.istore 6, 0, 0, 0), (.iload_n 3, 0, 0, 0)] [60 * v + k] (by decide +kernel) rfl (pc' := 56) (ls' := [some (.ref 72), some (.int (nI k)), some (.int (pmax (fun v => psum (mcF M k v) n) v)), some (.int (bI (anyB (mgF M k) v))), some (.int (bI (allB (fun v => allB (maF M k v) n) v))), some (.int (nI v)), some (.int (M 89 (60 * v + k))), none, none, none]) (st' := [.int (bI (anyB (mgF M k) v))]) (M' := M) rfl ⟨trivial, rfl, trivial, trivial, trivial, trivial, trivial, ⟨(by simp only [hn, nI_add, pk_mul, nI_s1, Nat.reduceAdd, Nat.reduceMul]), (by show _ < 300; omega)⟩, trivial, trivial, trivial⟩ ?_
      refine g_if_ne (off := 9) (tgt := 65) (by decide +kernel) (by decide) (fun c7 => ?_) (fun c7 => ?_)
      · refine blk 7 [(.iconst 1, 0, 0, (nI 1)), (.goto (4), 70, 0, 0), (.istore_n 3, 0, 0, 0), (.iconst 0, 0, 0, (nI 0)), (.istore 7, 0, 0, 0), (.iconst 0, 0, 0, (nI 0)), (.istore 8, 0, 0, 0)] [] (by decide +kernel) rfl (pc' := 77) (ls' := [some (.ref 72), some (.int (nI k)), some (.int (pmax (fun v => psum (mcF M k v) n) v)), some (.int (nI 1)), some (.int (bI (allB (fun v => allB (maF M k v) n) v))), some (.int (nI v)), some (.int (M 89 (60 * v + k))), some (.int (nI 0)), some (.int (nI 0)), none]) (st' := []) (M' := M) rfl ⟨trivial, trivial, trivial, trivial, trivial, trivial, trivial, trivial⟩ ?_
        have eg : nI 1 = bI (anyB (mgF M k) (v + 1)) := by rw [anyB]; first | (rw [bI_ne (b := anyB (mgF M k) v) (by assumption)]; exact n1_lit) | (rw [show mgF M k v = true from decide_eq_true (by assumption), Bool.or_true]; exact n1_lit)
        refine G.sub (ls' := [some (.ref 72), some (.int (nI k)), some (.int (pmax (fun v => psum (mcF M k v) n) v)), some (.int (bI (anyB (mgF M k) (v + 1)))), some (.int (bI (allB (fun v => allB (maF M k v) n) v && allB (maF M k v) 0))), some (.int (nI v)), some (.int (M 89 (60 * v + k))), some (.int (psum (mcF M k v) 0)), some (.int (nI 0)), none]) ?_ ⟨rfl, rfl, rfl, congrArg (fun z => some (Value.int z)) eg, congrArg (fun z => some (Value.int z)) (by rw [allB, Bool.and_true]), rfl, rfl, congrArg (fun z => some (Value.int z)) nI_0, rfl, trivial⟩
        exact l_mmark2 hn hn5 hk hc (by omega) (ih (d - 1) (by omega) (v + 1) (by omega) (by omega)) _ 0 rfl (by omega)
      · refine blk 7 [(.iload 6, 0, 0, 0), (.iconst (-1), 0, 0, (-1))] [] (by decide +kernel) rfl (pc' := 62) (ls' := [some (.ref 72), some (.int (nI k)), some (.int (pmax (fun v => psum (mcF M k v) n) v)), some (.int (bI (anyB (mgF M k) v))), some (.int (bI (allB (fun v => allB (maF M k v) n) v))), some (.int (nI v)), some (.int (M 89 (60 * v + k))), none, none, none]) (st' := [.int (-1), .int (M 89 (60 * v + k))]) (M' := M) rfl ⟨trivial, trivial, trivial⟩ ?_
        refine g_icmp_ne (off := 7) (tgt := 69) (by decide +kernel) (by decide) (fun c8 => ?_) (fun c8 => ?_)
        · refine blk 7 [(.iconst 0, 0, 0, (nI 0)), (.istore_n 3, 0, 0, 0), (.iconst 0, 0, 0, (nI 0)), (.istore 7, 0, 0, 0), (.iconst 0, 0, 0, (nI 0)), (.istore 8, 0, 0, 0)] [] (by decide +kernel) rfl (pc' := 77) (ls' := [some (.ref 72), some (.int (nI k)), some (.int (pmax (fun v => psum (mcF M k v) n) v)), some (.int (nI 0)), some (.int (bI (allB (fun v => allB (maF M k v) n) v))), some (.int (nI v)), some (.int (M 89 (60 * v + k))), some (.int (nI 0)), some (.int (nI 0)), none]) (st' := []) (M' := M) rfl ⟨trivial, trivial, trivial, trivial, trivial, trivial, trivial⟩ ?_
          have eg : nI 0 = bI (anyB (mgF M k) (v + 1)) := by rw [anyB, bI_eq (b := anyB (mgF M k) v) (by assumption), show mgF M k v = false from decide_eq_false (by assumption)]; exact nI_0
          refine G.sub (ls' := [some (.ref 72), some (.int (nI k)), some (.int (pmax (fun v => psum (mcF M k v) n) v)), some (.int (bI (anyB (mgF M k) (v + 1)))), some (.int (bI (allB (fun v => allB (maF M k v) n) v && allB (maF M k v) 0))), some (.int (nI v)), some (.int (M 89 (60 * v + k))), some (.int (psum (mcF M k v) 0)), some (.int (nI 0)), none]) ?_ ⟨rfl, rfl, rfl, congrArg (fun z => some (Value.int z)) eg, congrArg (fun z => some (Value.int z)) (by rw [allB, Bool.and_true]), rfl, rfl, congrArg (fun z => some (Value.int z)) nI_0, rfl, trivial⟩
          exact l_mmark2 hn hn5 hk hc (by omega) (ih (d - 1) (by omega) (v + 1) (by omega) (by omega)) _ 0 rfl (by omega)
        · refine blk 7 [(.iconst 1, 0, 0, (nI 1)), (.goto (4), 70, 0, 0), (.istore_n 3, 0, 0, 0), (.iconst 0, 0, 0, (nI 0)), (.istore 7, 0, 0, 0), (.iconst 0, 0, 0, (nI 0)), (.istore 8, 0, 0, 0)] [] (by decide +kernel) rfl (pc' := 77) (ls' := [some (.ref 72), some (.int (nI k)), some (.int (pmax (fun v => psum (mcF M k v) n) v)), some (.int (nI 1)), some (.int (bI (allB (fun v => allB (maF M k v) n) v))), some (.int (nI v)), some (.int (M 89 (60 * v + k))), some (.int (nI 0)), some (.int (nI 0)), none]) (st' := []) (M' := M) rfl ⟨trivial, trivial, trivial, trivial, trivial, trivial, trivial, trivial⟩ ?_
          have eg : nI 1 = bI (anyB (mgF M k) (v + 1)) := by rw [anyB]; first | (rw [bI_ne (b := anyB (mgF M k) v) (by assumption)]; exact n1_lit) | (rw [show mgF M k v = true from decide_eq_true (by assumption), Bool.or_true]; exact n1_lit)
          refine G.sub (ls' := [some (.ref 72), some (.int (nI k)), some (.int (pmax (fun v => psum (mcF M k v) n) v)), some (.int (bI (anyB (mgF M k) (v + 1)))), some (.int (bI (allB (fun v => allB (maF M k v) n) v && allB (maF M k v) 0))), some (.int (nI v)), some (.int (M 89 (60 * v + k))), some (.int (psum (mcF M k v) 0)), some (.int (nI 0)), none]) ?_ ⟨rfl, rfl, rfl, congrArg (fun z => some (Value.int z)) eg, congrArg (fun z => some (Value.int z)) (by rw [allB, Bool.and_true]), rfl, rfl, congrArg (fun z => some (Value.int z)) nI_0, rfl, trivial⟩
          exact l_mmark2 hn hn5 hk hc (by omega) (ih (d - 1) (by omega) (v + 1) (by omega) (by omega)) _ 0 rfl (by omega)
theorem s_mmark1 (M : Mem) {n k W : Nat} (hl : ¬ M 72 11 = 0) (hn : M 72 0 = nI n) (hn5 : n ≤ 5) (hW : M 72 23 = nI W) (hW6 : W ≤ 60) (hk : k < W) (hc : ∀ a, a < n → okc (M 89 (60 * a + k))) : Spec mX7_mark [.ref 72, .int (nI k)] M (Ret (mkF (pmax (fun v => psum (mcF M k v) n) n) n (!(anyB (mgF M k) n) && allB (fun v => allB (maF M k v) n) n)) M) := by
  refine Spec.of (by decide) (by simp [Value.category]) (Nat.le_of_ble_eq_true rfl) ?_
  refine blk 7 [(.aload_n 0, 0, 0, 0), (.getfield 89, 7, 11, 0)] [] (by decide +kernel) rfl (pc' := 4) (ls' := [some (.ref 72), some (.int (nI k)), none, none, none, none, none, none, none, none]) (st' := [.int (M 72 11)]) (M' := M) rfl ⟨trivial, rfl, trivial⟩ ?_
  refine g_if_eq (off := 15) (tgt := 19) (by decide +kernel) (by decide) (fun c1 => ?_) (fun c1 => ?_)
  · refine blk 7 [(.bipush 32, 0, 0, (nI 32))] [] (by decide +kernel) rfl (pc' := 21) (ls' := [some (.ref 72), some (.int (nI k)), none, none, none, none, none, none, none, none]) (st' := [.int (nI 32)]) (M' := M) rfl ⟨trivial, trivial⟩ ?_
    exfalso
    first | exact hl c1 | omega
  · refine blk 7 [(.iload_n 1, 0, 0, 0)] [] (by decide +kernel) rfl (pc' := 8) (ls' := [some (.ref 72), some (.int (nI k)), none, none, none, none, none, none, none, none]) (st' := [.int (nI k)]) (M' := M) rfl ⟨trivial, trivial⟩ ?_
    refine g_if_lt (off := 11) (tgt := 19) (by decide +kernel) (by decide) (fun c2 => ?_) (fun c2 => ?_)
    · have nc2 : k < 0 := (nI_ltI (by omega) (by omega)).mp (by simpa only [hW, nI_add, pk_mul, nI_s1, n0_lit] using c2)
      refine blk 7 [(.bipush 32, 0, 0, (nI 32))] [] (by decide +kernel) rfl (pc' := 21) (ls' := [some (.ref 72), some (.int (nI k)), none, none, none, none, none, none, none, none]) (st' := [.int (nI 32)]) (M' := M) rfl ⟨trivial, trivial⟩ ?_
      exfalso
      first | exact hl c1 | omega
    · have nc2 : 0 ≤ k := by
        have z : ¬ nI k < nI 0 := by simpa only [hW, nI_add, pk_mul, nI_s1, n0_lit] using c2
        rw [nI_ltI (by omega) (by omega)] at z
        omega
      refine blk 7 [(.iload_n 1, 0, 0, 0), (.aload_n 0, 0, 0, 0), (.getfield 93, 7, 23, 0)] [] (by decide +kernel) rfl (pc' := 16) (ls' := [some (.ref 72), some (.int (nI k)), none, none, none, none, none, none, none, none]) (st' := [.int (M 72 23), .int (nI k)]) (M' := M) rfl ⟨trivial, trivial, rfl, trivial⟩ ?_
      refine g_icmp_lt (off := 6) (tgt := 22) (by decide +kernel) (by decide) (fun c3 => ?_) (fun c3 => ?_)
      · have nc3 : k < W := (nI_ltI (by omega) (by omega)).mp (by simpa only [hW, nI_add, pk_mul, nI_s1, n0_lit] using c3)
        refine blk 7 [(.iconst 0, 0, 0, (nI 0)), (.istore_n 2, 0, 0, 0), (.iconst 0, 0, 0, (nI 0)), (.istore_n 3, 0, 0, 0), (.iconst 1, 0, 0, (nI 1)), (.istore 4, 0, 0, 0), (.iconst 0, 0, 0, (nI 0)), (.istore 5, 0, 0, 0)] [] (by decide +kernel) rfl (pc' := 32) (ls' := [some (.ref 72), some (.int (nI k)), some (.int (nI 0)), some (.int (nI 0)), some (.int (nI 1)), some (.int (nI 0)), none, none, none, none]) (st' := []) (M' := M) rfl ⟨trivial, trivial, trivial, trivial, trivial, trivial, trivial, trivial, trivial⟩ ?_
        refine G.sub (ls' := [some (.ref 72), some (.int (nI k)), some (.int (pmax (fun v => psum (mcF M k v) n) 0)), some (.int (bI (anyB (mgF M k) 0))), some (.int (bI (allB (fun v => allB (maF M k v) n) 0))), some (.int (nI 0)), none, none, none, none]) ?_ ⟨rfl, rfl, congrArg (fun z => some (Value.int z)) nI_0, congrArg (fun z => some (Value.int z)) nI_0, congrArg (fun z => some (Value.int z)) n1_lit, rfl, trivial⟩
        exact l_mmark hn hn5 (by omega) hc _ 0 rfl (by omega)
      · have nc3 : W ≤ k := by
          have z : ¬ nI k < nI W := by simpa only [hW, nI_add, pk_mul, nI_s1, n0_lit] using c3
          rw [nI_ltI (by omega) (by omega)] at z
          omega
        refine blk 7 [(.bipush 32, 0, 0, (nI 32))] [] (by decide +kernel) rfl (pc' := 21) (ls' := [some (.ref 72), some (.int (nI k)), none, none, none, none, none, none, none, none]) (st' := [.int (nI 32)]) (M' := M) rfl ⟨trivial, trivial⟩ ?_
        exfalso
        first | exact hl c1 | omega
theorem s_mmark0 (M : Mem) {k : Int32} (hno : ¬ (¬ M 72 11 = 0 ∧ ¬ k < 0 ∧ k < M 72 23)) : Spec mX7_mark [.ref 72, .int k] M (Ret (nI 32) M) := by
  refine Spec.of (by decide) (by simp [Value.category]) (Nat.le_of_ble_eq_true rfl) ?_
  refine blk 7 [(.aload_n 0, 0, 0, 0), (.getfield 89, 7, 11, 0)] [] (by decide +kernel) rfl (pc' := 4) (ls' := [some (.ref 72), some (.int k), none, none, none, none, none, none, none, none]) (st' := [.int (M 72 11)]) (M' := M) rfl ⟨trivial, rfl, trivial⟩ ?_
  refine g_if_eq (off := 15) (tgt := 19) (by decide +kernel) (by decide) (fun c1 => ?_) (fun c1 => ?_)
  · refine blk 7 [(.bipush 32, 0, 0, (nI 32))] [] (by decide +kernel) rfl (pc' := 21) (ls' := [some (.ref 72), some (.int k), none, none, none, none, none, none, none, none]) (st' := [.int (nI 32)]) (M' := M) rfl ⟨trivial, trivial⟩ ?_
    exact g_ireturn (by decide +kernel) rfl (by decide +kernel) ⟨rfl, rfl⟩
  · refine blk 7 [(.iload_n 1, 0, 0, 0)] [] (by decide +kernel) rfl (pc' := 8) (ls' := [some (.ref 72), some (.int k), none, none, none, none, none, none, none, none]) (st' := [.int k]) (M' := M) rfl ⟨trivial, trivial⟩ ?_
    refine g_if_lt (off := 11) (tgt := 19) (by decide +kernel) (by decide) (fun c2 => ?_) (fun c2 => ?_)
    · refine blk 7 [(.bipush 32, 0, 0, (nI 32))] [] (by decide +kernel) rfl (pc' := 21) (ls' := [some (.ref 72), some (.int k), none, none, none, none, none, none, none, none]) (st' := [.int (nI 32)]) (M' := M) rfl ⟨trivial, trivial⟩ ?_
      exact g_ireturn (by decide +kernel) rfl (by decide +kernel) ⟨rfl, rfl⟩
    · refine blk 7 [(.iload_n 1, 0, 0, 0), (.aload_n 0, 0, 0, 0), (.getfield 93, 7, 23, 0)] [] (by decide +kernel) rfl (pc' := 16) (ls' := [some (.ref 72), some (.int k), none, none, none, none, none, none, none, none]) (st' := [.int (M 72 23), .int k]) (M' := M) rfl ⟨trivial, trivial, rfl, trivial⟩ ?_
      refine g_icmp_lt (off := 6) (tgt := 22) (by decide +kernel) (by decide) (fun c3 => ?_) (fun c3 => ?_)
      · exact absurd ⟨c1, c2, c3⟩ hno
      · refine blk 7 [(.bipush 32, 0, 0, (nI 32))] [] (by decide +kernel) rfl (pc' := 21) (ls' := [some (.ref 72), some (.int k), none, none, none, none, none, none, none, none]) (st' := [.int (nI 32)]) (M' := M) rfl ⟨trivial, trivial⟩ ?_
        exact g_ireturn (by decide +kernel) rfl (by decide +kernel) ⟨rfl, rfl⟩
