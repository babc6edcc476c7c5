section
-- ===== PART A: goes FIRST, ahead of the names: the tables' words, and 'selects' of the private methods out of them =====
/-- a private method of a class that the tables say can be made, by its rows of tables_1 -/
def lw_okq (q : MethodName × Nat) : Prop := (q.1.cls ≠ "java/lang/invoke/MethodHandle" ∧ q.1.cls ≠ "java/lang/invoke/VarHandle") ∧ Cond.instantiable q.1.cls q.2 ∈ tables_1 ∧ Cond.privateMethod q.1 ∈ tables_1 ∧ Cond.instanceMethod q.1 ∈ tables_1
theorem lw_p0 : lw_okq (⟨"GuidedAligner", "areTwoWords", "(II)Z"⟩, 12) := ⟨⟨by decide +kernel, by decide +kernel⟩, List.mem_of_getElem? (i := 13) (by decide +kernel), List.mem_of_getElem? (i := 271) (by decide +kernel), List.mem_of_getElem? (i := 272) (by decide +kernel)⟩
theorem lw_p1 : lw_okq (⟨"GuidedAligner", "isWord", "(I)Z"⟩, 12) := ⟨⟨by decide +kernel, by decide +kernel⟩, List.mem_of_getElem? (i := 13) (by decide +kernel), List.mem_of_getElem? (i := 275) (by decide +kernel), List.mem_of_getElem? (i := 276) (by decide +kernel)⟩
theorem lw_p2 : lw_okq (⟨"GuidedAligner", "mergeOnTrial", "(II)I"⟩, 12) := ⟨⟨by decide +kernel, by decide +kernel⟩, List.mem_of_getElem? (i := 13) (by decide +kernel), List.mem_of_getElem? (i := 279) (by decide +kernel), List.mem_of_getElem? (i := 280) (by decide +kernel)⟩
theorem lw_p3 : lw_okq (⟨"GuidedAligner", "mergeUpTheTree", "()V"⟩, 12) := ⟨⟨by decide +kernel, by decide +kernel⟩, List.mem_of_getElem? (i := 13) (by decide +kernel), List.mem_of_getElem? (i := 422) (by decide +kernel), List.mem_of_getElem? (i := 423) (by decide +kernel)⟩
theorem lw_p4 : lw_okq (⟨"GuidedAligner", "isInnerNode", "(I)Z"⟩, 12) := ⟨⟨by decide +kernel, by decide +kernel⟩, List.mem_of_getElem? (i := 13) (by decide +kernel), List.mem_of_getElem? (i := 452) (by decide +kernel), List.mem_of_getElem? (i := 453) (by decide +kernel)⟩
theorem lw_p5 : lw_okq (⟨"GuidedAlignerModel", "forget", "()V"⟩, 40) := ⟨⟨by decide +kernel, by decide +kernel⟩, List.mem_of_getElem? (i := 495) (by decide +kernel), List.mem_of_getElem? (i := 633) (by decide +kernel), List.mem_of_getElem? (i := 634) (by decide +kernel)⟩
theorem lw_p6 : lw_okq (⟨"GuidedAlignerModel", "areTwo", "(II)Z"⟩, 40) := ⟨⟨by decide +kernel, by decide +kernel⟩, List.mem_of_getElem? (i := 495) (by decide +kernel), List.mem_of_getElem? (i := 657) (by decide +kernel), List.mem_of_getElem? (i := 658) (by decide +kernel)⟩
theorem lw_p7 : lw_okq (⟨"GuidedAlignerModel", "mergeWords", "(II)I"⟩, 40) := ⟨⟨by decide +kernel, by decide +kernel⟩, List.mem_of_getElem? (i := 495) (by decide +kernel), List.mem_of_getElem? (i := 661) (by decide +kernel), List.mem_of_getElem? (i := 662) (by decide +kernel)⟩
theorem lw_p8 : lw_okq (⟨"GuidedAlignerModel", "plainFactors", "()V"⟩, 40) := ⟨⟨by decide +kernel, by decide +kernel⟩, List.mem_of_getElem? (i := 495) (by decide +kernel), List.mem_of_getElem? (i := 665) (by decide +kernel), List.mem_of_getElem? (i := 666) (by decide +kernel)⟩
theorem lw_p9 : lw_okq (⟨"GuidedAlignerModel", "alone", "(ZI)V"⟩, 40) := ⟨⟨by decide +kernel, by decide +kernel⟩, List.mem_of_getElem? (i := 495) (by decide +kernel), List.mem_of_getElem? (i := 669) (by decide +kernel), List.mem_of_getElem? (i := 670) (by decide +kernel)⟩
theorem lw_p10 : lw_okq (⟨"GuidedAlignerModel", "merge", "()I"⟩, 40) := ⟨⟨by decide +kernel, by decide +kernel⟩, List.mem_of_getElem? (i := 495) (by decide +kernel), List.mem_of_getElem? (i := 673) (by decide +kernel), List.mem_of_getElem? (i := 674) (by decide +kernel)⟩
theorem lw_p11 : lw_okq (⟨"GuidedAlignerModel", "prepare", "()V"⟩, 40) := ⟨⟨by decide +kernel, by decide +kernel⟩, List.mem_of_getElem? (i := 495) (by decide +kernel), List.mem_of_getElem? (i := 677) (by decide +kernel), List.mem_of_getElem? (i := 678) (by decide +kernel)⟩
theorem lw_p12 : lw_okq (⟨"GuidedAlignerModel", "isIn", "(II)Z"⟩, 40) := ⟨⟨by decide +kernel, by decide +kernel⟩, List.mem_of_getElem? (i := 495) (by decide +kernel), List.mem_of_getElem? (i := 681) (by decide +kernel), List.mem_of_getElem? (i := 682) (by decide +kernel)⟩
theorem lw_p13 : lw_okq (⟨"GuidedAlignerModel", "bothAt", "(II)I"⟩, 40) := ⟨⟨by decide +kernel, by decide +kernel⟩, List.mem_of_getElem? (i := 495) (by decide +kernel), List.mem_of_getElem? (i := 685) (by decide +kernel), List.mem_of_getElem? (i := 686) (by decide +kernel)⟩
theorem lw_p14 : lw_okq (⟨"GuidedAlignerModel", "weightOfSet", "(I)I"⟩, 40) := ⟨⟨by decide +kernel, by decide +kernel⟩, List.mem_of_getElem? (i := 495) (by decide +kernel), List.mem_of_getElem? (i := 689) (by decide +kernel), List.mem_of_getElem? (i := 690) (by decide +kernel)⟩
theorem lw_p15 : lw_okq (⟨"GuidedAlignerModel", "canStep", "(III)Z"⟩, 40) := ⟨⟨by decide +kernel, by decide +kernel⟩, List.mem_of_getElem? (i := 495) (by decide +kernel), List.mem_of_getElem? (i := 693) (by decide +kernel), List.mem_of_getElem? (i := 694) (by decide +kernel)⟩
def lw_privs_1 : List (MethodName × Nat) := [(⟨"GuidedAligner", "areTwoWords", "(II)Z"⟩, 12), (⟨"GuidedAligner", "isWord", "(I)Z"⟩, 12), (⟨"GuidedAligner", "mergeOnTrial", "(II)I"⟩, 12), (⟨"GuidedAligner", "mergeUpTheTree", "()V"⟩, 12), (⟨"GuidedAligner", "isInnerNode", "(I)Z"⟩, 12), (⟨"GuidedAlignerModel", "forget", "()V"⟩, 40), (⟨"GuidedAlignerModel", "areTwo", "(II)Z"⟩, 40), (⟨"GuidedAlignerModel", "mergeWords", "(II)I"⟩, 40), (⟨"GuidedAlignerModel", "plainFactors", "()V"⟩, 40), (⟨"GuidedAlignerModel", "alone", "(ZI)V"⟩, 40), (⟨"GuidedAlignerModel", "merge", "()I"⟩, 40), (⟨"GuidedAlignerModel", "prepare", "()V"⟩, 40), (⟨"GuidedAlignerModel", "isIn", "(II)Z"⟩, 40), (⟨"GuidedAlignerModel", "bothAt", "(II)I"⟩, 40), (⟨"GuidedAlignerModel", "weightOfSet", "(I)I"⟩, 40), (⟨"GuidedAlignerModel", "canStep", "(III)Z"⟩, 40)]
theorem lw_r1 : ∀ q ∈ lw_privs_1, lw_okq q := List.forall_mem_cons.mpr ⟨lw_p0, List.forall_mem_cons.mpr ⟨lw_p1, List.forall_mem_cons.mpr ⟨lw_p2, List.forall_mem_cons.mpr ⟨lw_p3, List.forall_mem_cons.mpr ⟨lw_p4, List.forall_mem_cons.mpr ⟨lw_p5, List.forall_mem_cons.mpr ⟨lw_p6, List.forall_mem_cons.mpr ⟨lw_p7, List.forall_mem_cons.mpr ⟨lw_p8, List.forall_mem_cons.mpr ⟨lw_p9, List.forall_mem_cons.mpr ⟨lw_p10, List.forall_mem_cons.mpr ⟨lw_p11, List.forall_mem_cons.mpr ⟨lw_p12, List.forall_mem_cons.mpr ⟨lw_p13, List.forall_mem_cons.mpr ⟨lw_p14, List.forall_mem_cons.mpr ⟨lw_p15, fun _ h => absurd h List.not_mem_nil⟩⟩⟩⟩⟩⟩⟩⟩⟩⟩⟩⟩⟩⟩⟩⟩
theorem lw_p16 : lw_okq (⟨"GuidedAlignerModel", "stepWorth", "(IIIIII)I"⟩, 40) := ⟨⟨by decide +kernel, by decide +kernel⟩, List.mem_of_getElem? (i := 495) (by decide +kernel), List.mem_of_getElem? (i := 697) (by decide +kernel), List.mem_of_getElem? (i := 698) (by decide +kernel)⟩
theorem lw_p17 : lw_okq (⟨"GuidedAlignerModel", "entry", "(III)I"⟩, 40) := ⟨⟨by decide +kernel, by decide +kernel⟩, List.mem_of_getElem? (i := 495) (by decide +kernel), List.mem_of_getElem? (i := 701) (by decide +kernel), List.mem_of_getElem? (i := 702) (by decide +kernel)⟩
theorem lw_p18 : lw_okq (⟨"GuidedAlignerModel", "walk", "(II)V"⟩, 40) := ⟨⟨by decide +kernel, by decide +kernel⟩, List.mem_of_getElem? (i := 495) (by decide +kernel), List.mem_of_getElem? (i := 705) (by decide +kernel), List.mem_of_getElem? (i := 706) (by decide +kernel)⟩
theorem lw_p19 : lw_okq (⟨"GuidedAlignerModel", "shared", "(II)I"⟩, 40) := ⟨⟨by decide +kernel, by decide +kernel⟩, List.mem_of_getElem? (i := 495) (by decide +kernel), List.mem_of_getElem? (i := 714) (by decide +kernel), List.mem_of_getElem? (i := 715) (by decide +kernel)⟩
theorem lw_p20 : lw_okq (⟨"GuidedAlignerModel", "timesIn", "(II)I"⟩, 40) := ⟨⟨by decide +kernel, by decide +kernel⟩, List.mem_of_getElem? (i := 495) (by decide +kernel), List.mem_of_getElem? (i := 718) (by decide +kernel), List.mem_of_getElem? (i := 719) (by decide +kernel)⟩
theorem lw_p21 : lw_okq (⟨"GuidedAlignerModel", "join", "(I)V"⟩, 40) := ⟨⟨by decide +kernel, by decide +kernel⟩, List.mem_of_getElem? (i := 495) (by decide +kernel), List.mem_of_getElem? (i := 727) (by decide +kernel), List.mem_of_getElem? (i := 728) (by decide +kernel)⟩
theorem lw_p22 : lw_okq (⟨"GuidedAlignerModel", "valueOf", "(IIII)V"⟩, 40) := ⟨⟨by decide +kernel, by decide +kernel⟩, List.mem_of_getElem? (i := 495) (by decide +kernel), List.mem_of_getElem? (i := 731) (by decide +kernel), List.mem_of_getElem? (i := 732) (by decide +kernel)⟩
theorem lw_p23 : lw_okq (⟨"GuidedAlignerModel", "spansOf", "(II)I"⟩, 40) := ⟨⟨by decide +kernel, by decide +kernel⟩, List.mem_of_getElem? (i := 495) (by decide +kernel), List.mem_of_getElem? (i := 735) (by decide +kernel), List.mem_of_getElem? (i := 736) (by decide +kernel)⟩
theorem lw_p24 : lw_okq (⟨"GuidedAlignerModel", "sumOf", "(II)I"⟩, 40) := ⟨⟨by decide +kernel, by decide +kernel⟩, List.mem_of_getElem? (i := 495) (by decide +kernel), List.mem_of_getElem? (i := 739) (by decide +kernel), List.mem_of_getElem? (i := 740) (by decide +kernel)⟩
theorem lw_p25 : lw_okq (⟨"GuidedAlignerModel", "countOf", "(I)I"⟩, 40) := ⟨⟨by decide +kernel, by decide +kernel⟩, List.mem_of_getElem? (i := 495) (by decide +kernel), List.mem_of_getElem? (i := 743) (by decide +kernel), List.mem_of_getElem? (i := 744) (by decide +kernel)⟩
theorem lw_p26 : lw_okq (⟨"GuidedAlignerModel", "weigh", "()V"⟩, 40) := ⟨⟨by decide +kernel, by decide +kernel⟩, List.mem_of_getElem? (i := 495) (by decide +kernel), List.mem_of_getElem? (i := 748) (by decide +kernel), List.mem_of_getElem? (i := 749) (by decide +kernel)⟩
theorem lw_p27 : lw_okq (⟨"GuidedAlignerModel", "useWeights", "()V"⟩, 40) := ⟨⟨by decide +kernel, by decide +kernel⟩, List.mem_of_getElem? (i := 495) (by decide +kernel), List.mem_of_getElem? (i := 752) (by decide +kernel), List.mem_of_getElem? (i := 753) (by decide +kernel)⟩
theorem lw_p28 : lw_okq (⟨"GuidedAlignerModel", "takeP", "(I)V"⟩, 40) := ⟨⟨by decide +kernel, by decide +kernel⟩, List.mem_of_getElem? (i := 495) (by decide +kernel), List.mem_of_getElem? (i := 756) (by decide +kernel), List.mem_of_getElem? (i := 757) (by decide +kernel)⟩
theorem lw_p29 : lw_okq (⟨"GuidedAlignerModel", "takeQ", "(I)V"⟩, 40) := ⟨⟨by decide +kernel, by decide +kernel⟩, List.mem_of_getElem? (i := 495) (by decide +kernel), List.mem_of_getElem? (i := 760) (by decide +kernel), List.mem_of_getElem? (i := 761) (by decide +kernel)⟩
theorem lw_p30 : lw_okq (⟨"GuidedAlignerModel", "isInner", "(I)Z"⟩, 40) := ⟨⟨by decide +kernel, by decide +kernel⟩, List.mem_of_getElem? (i := 495) (by decide +kernel), List.mem_of_getElem? (i := 783) (by decide +kernel), List.mem_of_getElem? (i := 784) (by decide +kernel)⟩
theorem lw_p31 : lw_okq (⟨"GuidedAlignerModel", "totalOf", "(ZI)I"⟩, 40) := ⟨⟨by decide +kernel, by decide +kernel⟩, List.mem_of_getElem? (i := 495) (by decide +kernel), List.mem_of_getElem? (i := 799) (by decide +kernel), List.mem_of_getElem? (i := 800) (by decide +kernel)⟩
def lw_privs_2 : List (MethodName × Nat) := [(⟨"GuidedAlignerModel", "stepWorth", "(IIIIII)I"⟩, 40), (⟨"GuidedAlignerModel", "entry", "(III)I"⟩, 40), (⟨"GuidedAlignerModel", "walk", "(II)V"⟩, 40), (⟨"GuidedAlignerModel", "shared", "(II)I"⟩, 40), (⟨"GuidedAlignerModel", "timesIn", "(II)I"⟩, 40), (⟨"GuidedAlignerModel", "join", "(I)V"⟩, 40), (⟨"GuidedAlignerModel", "valueOf", "(IIII)V"⟩, 40), (⟨"GuidedAlignerModel", "spansOf", "(II)I"⟩, 40), (⟨"GuidedAlignerModel", "sumOf", "(II)I"⟩, 40), (⟨"GuidedAlignerModel", "countOf", "(I)I"⟩, 40), (⟨"GuidedAlignerModel", "weigh", "()V"⟩, 40), (⟨"GuidedAlignerModel", "useWeights", "()V"⟩, 40), (⟨"GuidedAlignerModel", "takeP", "(I)V"⟩, 40), (⟨"GuidedAlignerModel", "takeQ", "(I)V"⟩, 40), (⟨"GuidedAlignerModel", "isInner", "(I)Z"⟩, 40), (⟨"GuidedAlignerModel", "totalOf", "(ZI)I"⟩, 40)]
theorem lw_r2 : ∀ q ∈ lw_privs_2, lw_okq q := List.forall_mem_cons.mpr ⟨lw_p16, List.forall_mem_cons.mpr ⟨lw_p17, List.forall_mem_cons.mpr ⟨lw_p18, List.forall_mem_cons.mpr ⟨lw_p19, List.forall_mem_cons.mpr ⟨lw_p20, List.forall_mem_cons.mpr ⟨lw_p21, List.forall_mem_cons.mpr ⟨lw_p22, List.forall_mem_cons.mpr ⟨lw_p23, List.forall_mem_cons.mpr ⟨lw_p24, List.forall_mem_cons.mpr ⟨lw_p25, List.forall_mem_cons.mpr ⟨lw_p26, List.forall_mem_cons.mpr ⟨lw_p27, List.forall_mem_cons.mpr ⟨lw_p28, List.forall_mem_cons.mpr ⟨lw_p29, List.forall_mem_cons.mpr ⟨lw_p30, List.forall_mem_cons.mpr ⟨lw_p31, fun _ h => absurd h List.not_mem_nil⟩⟩⟩⟩⟩⟩⟩⟩⟩⟩⟩⟩⟩⟩⟩⟩
theorem lw_p32 : lw_okq (⟨"GuidedAlignerModel", "pairTotal", "(ZIII)I"⟩, 40) := ⟨⟨by decide +kernel, by decide +kernel⟩, List.mem_of_getElem? (i := 495) (by decide +kernel), List.mem_of_getElem? (i := 803) (by decide +kernel), List.mem_of_getElem? (i := 804) (by decide +kernel)⟩
theorem lw_p33 : lw_okq (⟨"GuidedAlignerModel", "hasLetter", "(II)Z"⟩, 40) := ⟨⟨by decide +kernel, by decide +kernel⟩, List.mem_of_getElem? (i := 495) (by decide +kernel), List.mem_of_getElem? (i := 811) (by decide +kernel), List.mem_of_getElem? (i := 812) (by decide +kernel)⟩
def lw_privs_3 : List (MethodName × Nat) := [(⟨"GuidedAlignerModel", "pairTotal", "(ZIII)I"⟩, 40), (⟨"GuidedAlignerModel", "hasLetter", "(II)Z"⟩, 40)]
theorem lw_r3 : ∀ q ∈ lw_privs_3, lw_okq q := List.forall_mem_cons.mpr ⟨lw_p32, List.forall_mem_cons.mpr ⟨lw_p33, fun _ h => absurd h List.not_mem_nil⟩⟩
def lw_privs : List (MethodName × Nat) := lw_privs_1 ++ (lw_privs_2 ++ (lw_privs_3))
def lw_tbl : List Cond := k2_sels lw_privs ++ tables_1
theorem lw_privs_ok : ∀ q ∈ lw_privs, lw_okq q := by
  show ∀ q ∈ lw_privs_1 ++ (lw_privs_2 ++ (lw_privs_3)), lw_okq q
  exact List.forall_mem_append.mpr ⟨lw_r1, List.forall_mem_append.mpr ⟨lw_r2, lw_r3⟩⟩
-- ===== end of PART A; then your names; then what follows =====
end
section
/-! ===== BEGIN words of one list among another's, by their places ===== -/
theorem goodIn_r {big : List Cond} (ws : List Cond) (ps : List Nat) (hp : ws = ps.filterMap (fun i => big[i]?)) (h : ws.all goodWord = true) : GoodIn big ws := by
  intro w hw
  have h1 := List.all_eq_true.mp h w hw
  rw [hp] at hw
  obtain ⟨i, -, hi⟩ := List.mem_filterMap.mp hw
  have hm : w ∈ big := by first | exact List.mem_of_getElem? hi | exact List.getElem?_mem hi
  exact ⟨hm, good_of_word h1⟩
theorem goodIn_app {big a b : List Cond} (ha : GoodIn big a) (hb : GoodIn big b) : GoodIn big (a ++ b) := fun w h => (List.mem_append.mp h).elim (ha w) (hb w)
theorem goodIn_ca {big a b : List Cond} {c : Cond} (ha : GoodIn big (c :: a)) (hb : GoodIn big b) : GoodIn big (c :: (a ++ b)) := fun w h => (List.mem_cons.mp h).elim (fun e => ha w (List.mem_cons.mpr (Or.inl e))) (fun h => (List.mem_append.mp h).elim (fun h => ha w (List.mem_cons.mpr (Or.inr h))) (hb w))
theorem goodIn_sub {big ws : List Cond} (hm : ∀ w ∈ ws, w ∈ big) (h : ws.all goodWord = true) : GoodIn big ws := fun w hw => ⟨hm w hw, good_of_word (List.all_eq_true.mp h w hw)⟩
/-! ===== END ===== -/
/-! ===== BEGIN printed: names, fields, word lists, decode rows ===== -/
def RX0 : String := "GuidedAligner$Costs"
def TX0 : u_T := fun k => match k with
  | 0 => ("GuidedAligner$Costs", "scores", "[I", true)
  | 1 => ("GuidedAligner$Costs", "open", "I", false)
  | _ => ("GuidedAligner$Costs", "extend", "I", false)
def tyX0 : Nat → FieldType := fun k => match k with
  | 0 => .array .int
  | 1 => .int
  | _ => .int
abbrev wsX00 : List Cond := u_ws RX0 TX0 3
theorem nmX0 : ∀ a, a < 3 → ∀ b, b < 3 → a ≠ b → (TX0 a).2.1 ≠ (TX0 b).2.1 := by decide +kernel
theorem tyX0_ok : ∀ k, k < 3 → parseFieldDescriptor (TX0 k).2.2.1 = some (tyX0 k) := by decide +kernel
abbrev cX0_init : ByteArray := prog_2_method_1_code
def yX0_init : MethodName := ⟨RX0, "<init>", "()V"⟩
def RX1 : String := "GuidedAligner$Merger"
def TX1 : u_T := fun k => match k with
  | 0 => ("GuidedAligner$Merger", "costs", "LGuidedAligner$Costs;", true)
  | 1 => ("GuidedAligner$Merger", "p", "LGuidedAligner$Side;", true)
  | 2 => ("GuidedAligner$Merger", "q", "LGuidedAligner$Side;", true)
  | 3 => ("GuidedAligner$Merger", "best", "[[I", true)
  | 4 => ("GuidedAligner$Merger", "steps", "[I", true)
  | 5 => ("GuidedAligner$Merger", "stepCount", "I", false)
  | 6 => ("GuidedAligner$Merger", "opening", "I", false)
  | 7 => ("GuidedAligner$Merger", "withBoth", "I", false)
  | 8 => ("GuidedAligner$Merger", "withLeft", "I", false)
  | _ => ("GuidedAligner$Merger", "withRight", "I", false)
def tyX1 : Nat → FieldType := fun k => match k with
  | 0 => .object "GuidedAligner$Costs"
  | 1 => .object "GuidedAligner$Side"
  | 2 => .object "GuidedAligner$Side"
  | 3 => .array (.array .int)
  | 4 => .array .int
  | 5 => .int
  | 6 => .int
  | 7 => .int
  | 8 => .int
  | _ => .int
abbrev wsX10 : List Cond := u_ws RX1 TX1 10
theorem nmX1 : ∀ a, a < 10 → ∀ b, b < 10 → a ≠ b → (TX1 a).2.1 ≠ (TX1 b).2.1 := by decide +kernel
theorem tyX1_ok : ∀ k, k < 10 → parseFieldDescriptor (TX1 k).2.2.1 = some (tyX1 k) := by decide +kernel
abbrev cX1_init : ByteArray := prog_3_method_1_code
def yX1_init : MethodName := ⟨RX1, "<init>", "(LGuidedAligner$Costs;)V"⟩
abbrev cX1_unite : ByteArray := prog_3_method_2_code
def yX1_unite : MethodName := ⟨RX1, "unite", "(LGuidedAligner$Sheet;II[I)I"⟩
abbrev cX1_fill : ByteArray := prog_3_method_3_code
def yX1_fill : MethodName := ⟨RX1, "fill", "(II)V"⟩
abbrev cX1_walk : ByteArray := prog_3_method_4_code
def yX1_walk : MethodName := ⟨RX1, "walk", "()V"⟩
abbrev cX1_look : ByteArray := prog_3_method_5_code
def yX1_look : MethodName := ⟨RX1, "look", "(II)V"⟩
abbrev cX1_choose : ByteArray := prog_3_method_6_code
def yX1_choose : MethodName := ⟨RX1, "choose", "(I)I"⟩
abbrev cX1_worthAfter : ByteArray := prog_3_method_7_code
def yX1_worthAfter : MethodName := ⟨RX1, "worthAfter", "(II)I"⟩
abbrev cX1_match : ByteArray := prog_3_method_8_code
def yX1_match : MethodName := ⟨RX1, "match", "(II)I"⟩
abbrev cX1_place : ByteArray := prog_3_method_9_code
def yX1_place : MethodName := ⟨RX1, "place", "(II)I"⟩
def RX2 : String := "GuidedAligner$Row"
def TX2 : u_T := fun k => match k with
  | 0 => ("GuidedAligner$Row", "cells", "[I", true)
  | _ => ("GuidedAligner$Row", "width", "I", false)
def tyX2 : Nat → FieldType := fun k => match k with
  | 0 => .array .int
  | _ => .int
abbrev wsX20 : List Cond := u_ws RX2 TX2 2
theorem nmX2 : ∀ a, a < 2 → ∀ b, b < 2 → a ≠ b → (TX2 a).2.1 ≠ (TX2 b).2.1 := by decide +kernel
theorem tyX2_ok : ∀ k, k < 2 → parseFieldDescriptor (TX2 k).2.2.1 = some (tyX2 k) := by decide +kernel
abbrev cX2_init : ByteArray := prog_4_method_1_code
def yX2_init : MethodName := ⟨RX2, "<init>", "(I)V"⟩
abbrev cX2_copy : ByteArray := prog_4_method_2_code
def yX2_copy : MethodName := ⟨RX2, "copy", "(LGuidedAligner$Row;)V"⟩
abbrev cX2_sameLettersAs : ByteArray := prog_4_method_3_code
def yX2_sameLettersAs : MethodName := ⟨RX2, "sameLettersAs", "(LGuidedAligner$Row;)I"⟩
abbrev cX2_tuplesSharedWith : ByteArray := prog_4_method_4_code
def yX2_tuplesSharedWith : MethodName := ⟨RX2, "tuplesSharedWith", "(LGuidedAligner$Row;)I"⟩
abbrev cX2_timesOfTuple : ByteArray := prog_4_method_5_code
def yX2_timesOfTuple : MethodName := ⟨RX2, "timesOfTuple", "(II)I"⟩
abbrev cX2_spread : ByteArray := prog_4_method_6_code
def yX2_spread : MethodName := ⟨RX2, "spread", "([III)V"⟩
abbrev cX2_scoreBeside : ByteArray := prog_4_method_7_code
def yX2_scoreBeside : MethodName := ⟨RX2, "scoreBeside", "(LGuidedAligner$Row;LGuidedAligner$Costs;)I"⟩
def RX3 : String := "GuidedAligner$Sheet"
def TX3 : u_T := fun k => match k with
  | _ => ("GuidedAligner$Sheet", "rows", "[LGuidedAligner$Row;", true)
def tyX3 : Nat → FieldType := fun k => match k with
  | _ => .array (.object "GuidedAligner$Row")
abbrev wsX30 : List Cond := u_ws RX3 TX3 1
theorem nmX3 : ∀ a, a < 1 → ∀ b, b < 1 → a ≠ b → (TX3 a).2.1 ≠ (TX3 b).2.1 := by decide +kernel
theorem tyX3_ok : ∀ k, k < 1 → parseFieldDescriptor (TX3 k).2.2.1 = some (tyX3 k) := by decide +kernel
abbrev cX3_init : ByteArray := prog_5_method_1_code
def yX3_init : MethodName := ⟨RX3, "<init>", "()V"⟩
abbrev cX3_copyWithout : ByteArray := prog_5_method_2_code
def yX3_copyWithout : MethodName := ⟨RX3, "copyWithout", "(LGuidedAligner$Sheet;I)V"⟩
abbrev cX3_hasLetter : ByteArray := prog_5_method_3_code
def yX3_hasLetter : MethodName := ⟨RX3, "hasLetter", "(II)Z"⟩
abbrev cX3_spread : ByteArray := prog_5_method_4_code
def yX3_spread : MethodName := ⟨RX3, "spread", "(I[III)V"⟩
abbrev cX3_mostOfOneLetter : ByteArray := prog_5_method_5_code
def yX3_mostOfOneLetter : MethodName := ⟨RX3, "mostOfOneLetter", "(II)I"⟩
abbrev cX3_allScoresPositive : ByteArray := prog_5_method_6_code
def yX3_allScoresPositive : MethodName := ⟨RX3, "allScoresPositive", "(IILGuidedAligner$Costs;)Z"⟩
abbrev cX3_sumOverPairs : ByteArray := prog_5_method_7_code
def yX3_sumOverPairs : MethodName := ⟨RX3, "sumOverPairs", "(ILGuidedAligner$Costs;[I)I"⟩
def RX4 : String := "GuidedAligner$Side"
def TX4 : u_T := fun k => match k with
  | 0 => ("GuidedAligner$Side", "ofLetter", "[I", true)
  | 1 => ("GuidedAligner$Side", "present", "[I", true)
  | 2 => ("GuidedAligner$Side", "whole", "I", false)
  | _ => ("GuidedAligner$Side", "width", "I", false)
def tyX4 : Nat → FieldType := fun k => match k with
  | 0 => .array .int
  | 1 => .array .int
  | 2 => .int
  | _ => .int
abbrev wsX40 : List Cond := u_ws RX4 TX4 4
theorem nmX4 : ∀ a, a < 4 → ∀ b, b < 4 → a ≠ b → (TX4 a).2.1 ≠ (TX4 b).2.1 := by decide +kernel
theorem tyX4_ok : ∀ k, k < 4 → parseFieldDescriptor (TX4 k).2.2.1 = some (tyX4 k) := by decide +kernel
abbrev cX4_init : ByteArray := prog_6_method_1_code
def yX4_init : MethodName := ⟨RX4, "<init>", "()V"⟩
abbrev cX4_read : ByteArray := prog_6_method_2_code
def yX4_read : MethodName := ⟨RX4, "read", "(LGuidedAligner$Sheet;I[I)V"⟩
abbrev cX4_readRow : ByteArray := prog_6_method_3_code
def yX4_readRow : MethodName := ⟨RX4, "readRow", "(LGuidedAligner$Row;I)V"⟩
def RX5 : String := "GuidedAligner$Tree"
def TX5 : u_T := fun k => match k with
  | 0 => ("GuidedAligner$Tree", "leftChild", "[I", true)
  | 1 => ("GuidedAligner$Tree", "rightChild", "[I", true)
  | 2 => ("GuidedAligner$Tree", "mergeWorth", "[I", true)
  | 3 => ("GuidedAligner$Tree", "wordsUnder", "[I", true)
  | 4 => ("GuidedAligner$Tree", "sizes", "[I", true)
  | 5 => ("GuidedAligner$Tree", "heights", "[I", true)
  | 6 => ("GuidedAligner$Tree", "parents", "[I", true)
  | 7 => ("GuidedAligner$Tree", "weights", "[I", true)
  | 8 => ("GuidedAligner$Tree", "between", "[[I", true)
  | 9 => ("GuidedAligner$Tree", "leaves", "I", false)
  | 10 => ("GuidedAligner$Tree", "nodes", "I", false)
  | _ => ("GuidedAligner$Tree", "bySpans", "Z", false)
def tyX5 : Nat → FieldType := fun k => match k with
  | 0 => .array .int
  | 1 => .array .int
  | 2 => .array .int
  | 3 => .array .int
  | 4 => .array .int
  | 5 => .array .int
  | 6 => .array .int
  | 7 => .array .int
  | 8 => .array (.array .int)
  | 9 => .int
  | 10 => .int
  | _ => .boolean
abbrev wsX50 : List Cond := u_ws RX5 TX5 12
theorem nmX5 : ∀ a, a < 12 → ∀ b, b < 12 → a ≠ b → (TX5 a).2.1 ≠ (TX5 b).2.1 := by decide +kernel
theorem tyX5_ok : ∀ k, k < 12 → parseFieldDescriptor (TX5 k).2.2.1 = some (tyX5 k) := by decide +kernel
abbrev cX5_init : ByteArray := prog_7_method_1_code
def yX5_init : MethodName := ⟨RX5, "<init>", "()V"⟩
abbrev cX5_plant : ByteArray := prog_7_method_2_code
def yX5_plant : MethodName := ⟨RX5, "plant", "(IZ)V"⟩
abbrev cX5_setDistance : ByteArray := prog_7_method_3_code
def yX5_setDistance : MethodName := ⟨RX5, "setDistance", "(III)V"⟩
abbrev cX5_setBetween : ByteArray := prog_7_method_4_code
def yX5_setBetween : MethodName := ⟨RX5, "setBetween", "(III)V"⟩
abbrev cX5_grow : ByteArray := prog_7_method_5_code
def yX5_grow : MethodName := ⟨RX5, "grow", "()V"⟩
abbrev cX5_isOpen : ByteArray := prog_7_method_6_code
def yX5_isOpen : MethodName := ⟨RX5, "isOpen", "(I)Z"⟩
abbrev cX5_isNearer : ByteArray := prog_7_method_7_code
def yX5_isNearer : MethodName := ⟨RX5, "isNearer", "(IIII)Z"⟩
abbrev cX5_numerator : ByteArray := prog_7_method_8_code
def yX5_numerator : MethodName := ⟨RX5, "numerator", "(II)I"⟩
abbrev cX5_denominator : ByteArray := prog_7_method_9_code
def yX5_denominator : MethodName := ⟨RX5, "denominator", "(II)I"⟩
abbrev cX5_join : ByteArray := prog_7_method_10_code
def yX5_join : MethodName := ⟨RX5, "join", "(II)V"⟩
abbrev cX5_betweenJoined : ByteArray := prog_7_method_11_code
def yX5_betweenJoined : MethodName := ⟨RX5, "betweenJoined", "(III)I"⟩
abbrev cX5_weigh : ByteArray := prog_7_method_12_code
def yX5_weigh : MethodName := ⟨RX5, "weigh", "(Z)V"⟩
abbrev cX5_climb : ByteArray := prog_7_method_13_code
def yX5_climb : MethodName := ⟨RX5, "climb", "(I)I"⟩
def RX6 : String := "GuidedAligner"
def TX6 : u_T := fun k => match k with
  | 0 => ("GuidedAligner", "texts", "[LGuidedAligner$Row;", true)
  | 1 => ("GuidedAligner", "typed", "LGuidedAligner$Row;", true)
  | 2 => ("GuidedAligner", "costs", "LGuidedAligner$Costs;", true)
  | 3 => ("GuidedAligner", "merger", "LGuidedAligner$Merger;", true)
  | 4 => ("GuidedAligner", "tree", "LGuidedAligner$Tree;", true)
  | 5 => ("GuidedAligner", "layout", "LGuidedAligner$Sheet;", false)
  | 6 => ("GuidedAligner", "trial", "LGuidedAligner$Sheet;", false)
  | 7 => ("GuidedAligner", "count", "I", false)
  | 8 => ("GuidedAligner", "tuples", "Z", false)
  | 9 => ("GuidedAligner", "neighbours", "Z", false)
  | 10 => ("GuidedAligner", "weighing", "Z", false)
  | _ => ("GuidedAligner", "laid", "Z", false)
def tyX6 : Nat → FieldType := fun k => match k with
  | 0 => .array (.object "GuidedAligner$Row")
  | 1 => .object "GuidedAligner$Row"
  | 2 => .object "GuidedAligner$Costs"
  | 3 => .object "GuidedAligner$Merger"
  | 4 => .object "GuidedAligner$Tree"
  | 5 => .object "GuidedAligner$Sheet"
  | 6 => .object "GuidedAligner$Sheet"
  | 7 => .int
  | 8 => .boolean
  | 9 => .boolean
  | 10 => .boolean
  | _ => .boolean
abbrev wsX60 : List Cond := u_ws RX6 TX6 12
theorem nmX6 : ∀ a, a < 12 → ∀ b, b < 12 → a ≠ b → (TX6 a).2.1 ≠ (TX6 b).2.1 := by decide +kernel
theorem tyX6_ok : ∀ k, k < 12 → parseFieldDescriptor (TX6 k).2.2.1 = some (tyX6 k) := by decide +kernel
abbrev cX6_init : ByteArray := prog_1_method_1_code
def yX6_init : MethodName := ⟨RX6, "<init>", "()V"⟩
abbrev cX6_type : ByteArray := prog_1_method_2_code
def yX6_type : MethodName := ⟨RX6, "type", "(C)Z"⟩
abbrev cX6_end : ByteArray := prog_1_method_3_code
def yX6_end : MethodName := ⟨RX6, "end", "()I"⟩
abbrev cX6_score : ByteArray := prog_1_method_4_code
def yX6_score : MethodName := ⟨RX6, "score", "(III)Z"⟩
abbrev cX6_gaps : ByteArray := prog_1_method_5_code
def yX6_gaps : MethodName := ⟨RX6, "gaps", "(II)Z"⟩
abbrev cX6_settings : ByteArray := prog_1_method_6_code
def yX6_settings : MethodName := ⟨RX6, "settings", "(ZZZ)V"⟩
abbrev cX6_words : ByteArray := prog_1_method_7_code
def yX6_words : MethodName := ⟨RX6, "words", "()I"⟩
abbrev cX6_pair : ByteArray := prog_1_method_8_code
def yX6_pair : MethodName := ⟨RX6, "pair", "(II)I"⟩
abbrev cX6_distance : ByteArray := prog_1_method_9_code
def yX6_distance : MethodName := ⟨RX6, "distance", "(II)I"⟩
abbrev cX6_align : ByteArray := prog_1_method_10_code
def yX6_align : MethodName := ⟨RX6, "align", "()I"⟩
abbrev cX6_columns : ByteArray := prog_1_method_11_code
def yX6_columns : MethodName := ⟨RX6, "columns", "()I"⟩
abbrev cX6_at : ByteArray := prog_1_method_12_code
def yX6_at : MethodName := ⟨RX6, "at", "(II)C"⟩
abbrev cX6_mark : ByteArray := prog_1_method_13_code
def yX6_mark : MethodName := ⟨RX6, "mark", "(I)C"⟩
abbrev cX6_child : ByteArray := prog_1_method_14_code
def yX6_child : MethodName := ⟨RX6, "child", "(II)I"⟩
abbrev cX6_worth : ByteArray := prog_1_method_15_code
def yX6_worth : MethodName := ⟨RX6, "worth", "(I)I"⟩
abbrev cX6_weight : ByteArray := prog_1_method_16_code
def yX6_weight : MethodName := ⟨RX6, "weight", "(I)I"⟩
abbrev cX6_total : ByteArray := prog_1_method_17_code
def yX6_total : MethodName := ⟨RX6, "total", "()I"⟩
abbrev cX6_refine : ByteArray := prog_1_method_18_code
def yX6_refine : MethodName := ⟨RX6, "refine", "(I)Z"⟩
abbrev cX6_polish : ByteArray := prog_1_method_19_code
def yX6_polish : MethodName := ⟨RX6, "polish", "()I"⟩
abbrev cX6_letterOf : ByteArray := prog_1_method_20_code
def yX6_letterOf : MethodName := ⟨RX6, "letterOf", "(C)I"⟩
abbrev cX6_share : ByteArray := prog_1_method_21_code
def yX6_share : MethodName := ⟨RX6, "share", "(II)I"⟩
abbrev cX6_isWord : ByteArray := prog_1_method_22_code
def yX6_isWord : MethodName := ⟨RX6, "isWord", "(I)Z"⟩
abbrev cX6_areTwoWords : ByteArray := prog_1_method_23_code
def yX6_areTwoWords : MethodName := ⟨RX6, "areTwoWords", "(II)Z"⟩
abbrev cX6_isInnerNode : ByteArray := prog_1_method_24_code
def yX6_isInnerNode : MethodName := ⟨RX6, "isInnerNode", "(I)Z"⟩
abbrev cX6_mergeOnTrial : ByteArray := prog_1_method_25_code
def yX6_mergeOnTrial : MethodName := ⟨RX6, "mergeOnTrial", "(II)I"⟩
abbrev cX6_mergeUpTheTree : ByteArray := prog_1_method_26_code
def yX6_mergeUpTheTree : MethodName := ⟨RX6, "mergeUpTheTree", "()V"⟩
abbrev cX6_holds : ByteArray := prog_1_method_27_code
def yX6_holds : MethodName := ⟨RX6, "holds", "(II)Z"⟩
def RX7 : String := "GuidedAlignerModel"
def TX7 : u_T := fun k => match k with
  | 0 => ("GuidedAlignerModel", "words", "I", false)
  | 1 => ("GuidedAlignerModel", "lengths", "[I", true)
  | 2 => ("GuidedAlignerModel", "letters", "[I", true)
  | 3 => ("GuidedAlignerModel", "typed", "I", false)
  | 4 => ("GuidedAlignerModel", "typing", "[I", true)
  | 5 => ("GuidedAlignerModel", "scores", "[I", true)
  | 6 => ("GuidedAlignerModel", "open", "I", false)
  | 7 => ("GuidedAlignerModel", "extend", "I", false)
  | 8 => ("GuidedAlignerModel", "tuples", "Z", false)
  | 9 => ("GuidedAlignerModel", "neighbours", "Z", false)
  | 10 => ("GuidedAlignerModel", "weighing", "Z", false)
  | 11 => ("GuidedAlignerModel", "isThere", "Z", false)
  | 12 => ("GuidedAlignerModel", "leftOf", "[I", true)
  | 13 => ("GuidedAlignerModel", "rightOf", "[I", true)
  | 14 => ("GuidedAlignerModel", "parentOf", "[I", true)
  | 15 => ("GuidedAlignerModel", "worths", "[I", true)
  | 16 => ("GuidedAlignerModel", "members", "[I", true)
  | 17 => ("GuidedAlignerModel", "columnsOf", "[I", true)
  | 18 => ("GuidedAlignerModel", "cells", "[I", true)
  | 19 => ("GuidedAlignerModel", "heights", "[I", true)
  | 20 => ("GuidedAlignerModel", "spans", "[I", true)
  | 21 => ("GuidedAlignerModel", "distances", "[I", true)
  | 22 => ("GuidedAlignerModel", "weights", "[I", true)
  | 23 => ("GuidedAlignerModel", "columns", "I", false)
  | 24 => ("GuidedAlignerModel", "layout", "[I", true)
  | 25 => ("GuidedAlignerModel", "p", "I", false)
  | 26 => ("GuidedAlignerModel", "q", "I", false)
  | 27 => ("GuidedAlignerModel", "pWide", "I", false)
  | 28 => ("GuidedAlignerModel", "qWide", "I", false)
  | 29 => ("GuidedAlignerModel", "pCells", "[I", true)
  | 30 => ("GuidedAlignerModel", "qCells", "[I", true)
  | 31 => ("GuidedAlignerModel", "made", "I", false)
  | 32 => ("GuidedAlignerModel", "madeCells", "[I", true)
  | 33 => ("GuidedAlignerModel", "both", "[I", true)
  | 34 => ("GuidedAlignerModel", "pWeights", "[I", true)
  | 35 => ("GuidedAlignerModel", "qWeights", "[I", true)
  | 36 => ("GuidedAlignerModel", "rest", "[I", true)
  | 37 => ("GuidedAlignerModel", "factors", "[I", true)
  | 38 => ("GuidedAlignerModel", "upper", "J", false)
  | _ => ("GuidedAlignerModel", "lower", "J", false)
def tyX7 : Nat → FieldType := fun k => match k with
  | 0 => .int
  | 1 => .array .int
  | 2 => .array .int
  | 3 => .int
  | 4 => .array .int
  | 5 => .array .int
  | 6 => .int
  | 7 => .int
  | 8 => .boolean
  | 9 => .boolean
  | 10 => .boolean
  | 11 => .boolean
  | 12 => .array .int
  | 13 => .array .int
  | 14 => .array .int
  | 15 => .array .int
  | 16 => .array .int
  | 17 => .array .int
  | 18 => .array .int
  | 19 => .array .int
  | 20 => .array .int
  | 21 => .array .int
  | 22 => .array .int
  | 23 => .int
  | 24 => .array .int
  | 25 => .int
  | 26 => .int
  | 27 => .int
  | 28 => .int
  | 29 => .array .int
  | 30 => .array .int
  | 31 => .int
  | 32 => .array .int
  | 33 => .array .int
  | 34 => .array .int
  | 35 => .array .int
  | 36 => .array .int
  | 37 => .array .int
  | 38 => .long
  | _ => .long
abbrev wsX70 : List Cond := u_ws RX7 TX7 40
theorem nmX7 : ∀ a, a < 40 → ∀ b, b < 40 → a ≠ b → (TX7 a).2.1 ≠ (TX7 b).2.1 := by decide +kernel
theorem tyX7_ok : ∀ k, k < 40 → parseFieldDescriptor (TX7 k).2.2.1 = some (tyX7 k) := by decide +kernel
abbrev cX7_init : ByteArray := prog_9_method_1_code
def yX7_init : MethodName := ⟨RX7, "<init>", "()V"⟩
abbrev cX7_numberOf : ByteArray := prog_9_method_3_code
def yX7_numberOf : MethodName := ⟨RX7, "numberOf", "(C)I"⟩
abbrev cX7_letterOf : ByteArray := prog_9_method_4_code
def yX7_letterOf : MethodName := ⟨RX7, "letterOf", "(I)C"⟩
abbrev cX7_forget : ByteArray := prog_9_method_5_code
def yX7_forget : MethodName := ⟨RX7, "forget", "()V"⟩
abbrev cX7_type : ByteArray := prog_9_method_6_code
def yX7_type : MethodName := ⟨RX7, "type", "(C)Z"⟩
abbrev cX7_end : ByteArray := prog_9_method_7_code
def yX7_end : MethodName := ⟨RX7, "end", "()I"⟩
abbrev cX7_score : ByteArray := prog_9_method_8_code
def yX7_score : MethodName := ⟨RX7, "score", "(III)Z"⟩
abbrev cX7_gaps : ByteArray := prog_9_method_9_code
def yX7_gaps : MethodName := ⟨RX7, "gaps", "(II)Z"⟩
abbrev cX7_settings : ByteArray := prog_9_method_10_code
def yX7_settings : MethodName := ⟨RX7, "settings", "(ZZZ)V"⟩
abbrev cX7_words : ByteArray := prog_9_method_11_code
def yX7_words : MethodName := ⟨RX7, "words", "()I"⟩
abbrev cX7_isIn : ByteArray := prog_9_method_12_code
def yX7_isIn : MethodName := ⟨RX7, "isIn", "(II)Z"⟩
abbrev cX7_alone : ByteArray := prog_9_method_13_code
def yX7_alone : MethodName := ⟨RX7, "alone", "(ZI)V"⟩
abbrev cX7_weightOfSet : ByteArray := prog_9_method_14_code
def yX7_weightOfSet : MethodName := ⟨RX7, "weightOfSet", "(I)I"⟩
abbrev cX7_prepare : ByteArray := prog_9_method_15_code
def yX7_prepare : MethodName := ⟨RX7, "prepare", "()V"⟩
abbrev cX7_bothAt : ByteArray := prog_9_method_16_code
def yX7_bothAt : MethodName := ⟨RX7, "bothAt", "(II)I"⟩
abbrev cX7_entry : ByteArray := prog_9_method_17_code
def yX7_entry : MethodName := ⟨RX7, "entry", "(III)I"⟩
abbrev cX7_stepWorth : ByteArray := prog_9_method_18_code
def yX7_stepWorth : MethodName := ⟨RX7, "stepWorth", "(IIIIII)I"⟩
abbrev cX7_canStep : ByteArray := prog_9_method_19_code
def yX7_canStep : MethodName := ⟨RX7, "canStep", "(III)Z"⟩
abbrev cX7_merge : ByteArray := prog_9_method_20_code
def yX7_merge : MethodName := ⟨RX7, "merge", "()I"⟩
abbrev cX7_walk : ByteArray := prog_9_method_21_code
def yX7_walk : MethodName := ⟨RX7, "walk", "(II)V"⟩
abbrev cX7_plainFactors : ByteArray := prog_9_method_22_code
def yX7_plainFactors : MethodName := ⟨RX7, "plainFactors", "()V"⟩
abbrev cX7_areTwo : ByteArray := prog_9_method_23_code
def yX7_areTwo : MethodName := ⟨RX7, "areTwo", "(II)Z"⟩
abbrev cX7_mergeWords : ByteArray := prog_9_method_24_code
def yX7_mergeWords : MethodName := ⟨RX7, "mergeWords", "(II)I"⟩
abbrev cX7_pair : ByteArray := prog_9_method_25_code
def yX7_pair : MethodName := ⟨RX7, "pair", "(II)I"⟩
abbrev cX7_shared : ByteArray := prog_9_method_26_code
def yX7_shared : MethodName := ⟨RX7, "shared", "(II)I"⟩
abbrev cX7_timesIn : ByteArray := prog_9_method_27_code
def yX7_timesIn : MethodName := ⟨RX7, "timesIn", "(II)I"⟩
abbrev cX7_distance : ByteArray := prog_9_method_28_code
def yX7_distance : MethodName := ⟨RX7, "distance", "(II)I"⟩
abbrev cX7_countOf : ByteArray := prog_9_method_29_code
def yX7_countOf : MethodName := ⟨RX7, "countOf", "(I)I"⟩
abbrev cX7_sumOf : ByteArray := prog_9_method_30_code
def yX7_sumOf : MethodName := ⟨RX7, "sumOf", "(II)I"⟩
abbrev cX7_spansOf : ByteArray := prog_9_method_31_code
def yX7_spansOf : MethodName := ⟨RX7, "spansOf", "(II)I"⟩
abbrev cX7_valueOf : ByteArray := prog_9_method_32_code
def yX7_valueOf : MethodName := ⟨RX7, "valueOf", "(IIII)V"⟩
abbrev cX7_join : ByteArray := prog_9_method_33_code
def yX7_join : MethodName := ⟨RX7, "join", "(I)V"⟩
abbrev cX7_weigh : ByteArray := prog_9_method_34_code
def yX7_weigh : MethodName := ⟨RX7, "weigh", "()V"⟩
abbrev cX7_takeP : ByteArray := prog_9_method_35_code
def yX7_takeP : MethodName := ⟨RX7, "takeP", "(I)V"⟩
abbrev cX7_takeQ : ByteArray := prog_9_method_36_code
def yX7_takeQ : MethodName := ⟨RX7, "takeQ", "(I)V"⟩
abbrev cX7_useWeights : ByteArray := prog_9_method_37_code
def yX7_useWeights : MethodName := ⟨RX7, "useWeights", "()V"⟩
abbrev cX7_align : ByteArray := prog_9_method_38_code
def yX7_align : MethodName := ⟨RX7, "align", "()I"⟩
abbrev cX7_columns : ByteArray := prog_9_method_39_code
def yX7_columns : MethodName := ⟨RX7, "columns", "()I"⟩
abbrev cX7_at : ByteArray := prog_9_method_40_code
def yX7_at : MethodName := ⟨RX7, "at", "(II)C"⟩
abbrev cX7_mark : ByteArray := prog_9_method_41_code
def yX7_mark : MethodName := ⟨RX7, "mark", "(I)C"⟩
abbrev cX7_isInner : ByteArray := prog_9_method_42_code
def yX7_isInner : MethodName := ⟨RX7, "isInner", "(I)Z"⟩
abbrev cX7_child : ByteArray := prog_9_method_43_code
def yX7_child : MethodName := ⟨RX7, "child", "(II)I"⟩
abbrev cX7_worth : ByteArray := prog_9_method_44_code
def yX7_worth : MethodName := ⟨RX7, "worth", "(I)I"⟩
abbrev cX7_weight : ByteArray := prog_9_method_45_code
def yX7_weight : MethodName := ⟨RX7, "weight", "(I)I"⟩
abbrev cX7_pairTotal : ByteArray := prog_9_method_46_code
def yX7_pairTotal : MethodName := ⟨RX7, "pairTotal", "(ZIII)I"⟩
abbrev cX7_totalOf : ByteArray := prog_9_method_47_code
def yX7_totalOf : MethodName := ⟨RX7, "totalOf", "(ZI)I"⟩
abbrev cX7_total : ByteArray := prog_9_method_48_code
def yX7_total : MethodName := ⟨RX7, "total", "()I"⟩
abbrev cX7_hasLetter : ByteArray := prog_9_method_49_code
def yX7_hasLetter : MethodName := ⟨RX7, "hasLetter", "(II)Z"⟩
abbrev cX7_refine : ByteArray := prog_9_method_50_code
def yX7_refine : MethodName := ⟨RX7, "refine", "(I)Z"⟩
abbrev cX7_polish : ByteArray := prog_9_method_51_code
def yX7_polish : MethodName := ⟨RX7, "polish", "()I"⟩
abbrev cJ9_max_7cf53 : ByteArray := prog_10_method_65_code
abbrev cJ9_min_7cf53 : ByteArray := prog_10_method_69_code
def RJ7 : String := "java/util/Arrays"
abbrev cJ7_fill_53178 : ByteArray := prog_12_method_103_code
def yJ7_fill_53178 : MethodName := ⟨RJ7, "fill", "([II)V"⟩
def RL : String := "GuidedAlignerLaw"
abbrev cL_law : ByteArray := code
def yL_law : MethodName := ⟨RL, "law", "([I)Z"⟩
end
section
/-! MEMORY BY TAGS: every object and array of the class and of the reference is made in a constructor, so each has a number (tag) once and for all;
what they hold is one function of tag and place. kd: what a tag is (0 to 7: an object of that class; 8 ints; 9 rows; 10 int arrays); al: how many ints; rb, rl: the tags in an array of references. -/
abbrev Mem : Type := Nat → Nat → Int32
def kdL : List Nat := [6, 9, 0, 8, 1, 4, 8, 8, 4, 8, 8, 10, 8, 8, 8, 8, 5, 8, 8, 8, 8, 8, 8, 8, 8, 10, 8, 8, 8, 8, 8, 8, 8, 8, 8, 3, 9, 3, 9, 8, 8, 2, 2, 2, 2, 2, 8, 8, 8, 8, 8, 2, 2, 2, 2, 2, 8, 8, 8, 8, 8, 2, 2, 2, 2, 2, 8, 8, 8, 8, 8, 2, 7, 8, 8, 8, 8, 8, 8, 8, 8, 8, 8, 8, 8, 8, 8, 8, 8, 8, 8, 8, 8, 8, 8, 8]
def alL : List Nat := [0, 0, 0, 16, 0, 0, 192, 48, 0, 192, 48, 0, 925, 925, 925, 60, 0, 9, 9, 9, 9, 9, 9, 9, 5, 0, 9, 9, 9, 9, 9, 9, 9, 9, 9, 0, 0, 0, 0, 5, 11163, 0, 0, 0, 0, 0, 12, 12, 12, 12, 12, 0, 0, 0, 0, 0, 60, 60, 60, 60, 60, 0, 0, 0, 0, 0, 60, 60, 60, 60, 60, 0, 0, 5, 60, 12, 12, 16, 9, 9, 9, 9, 9, 9, 2700, 9, 81, 25, 5, 300, 300, 300, 300, 3600, 60, 60, 0, 5]
def rbL : List Nat := [0, 41, 0, 0, 0, 0, 0, 0, 0, 0, 0, 12, 0, 0, 0, 0, 0, 0, 0, 0, 0, 0, 0, 0, 0, 26, 0, 0, 0, 0, 0, 0, 0, 0, 0, 0, 51, 0, 61, 0, 0, 0, 0, 0, 0, 0, 0, 0, 0, 0, 0, 0, 0, 0, 0, 0, 0, 0, 0, 0, 0, 0, 0, 0, 0, 0, 0, 0, 0, 0, 0, 0, 0, 0, 0, 0, 0, 0, 0, 0, 0, 0, 0, 0, 0, 0, 0, 0, 0, 0, 0, 0, 0, 0, 0, 0]
def rlL : List Nat := [0, 5, 0, 0, 0, 0, 0, 0, 0, 0, 0, 3, 0, 0, 0, 0, 0, 0, 0, 0, 0, 0, 0, 0, 0, 9, 0, 0, 0, 0, 0, 0, 0, 0, 0, 0, 5, 0, 5, 0, 0, 0, 0, 0, 0, 0, 0, 0, 0, 0, 0, 0, 0, 0, 0, 0, 0, 0, 0, 0, 0, 0, 0, 0, 0, 0, 0, 0, 0, 0, 0, 0, 0, 0, 0, 0, 0, 0, 0, 0, 0, 0, 0, 0, 0, 0, 0, 0, 0, 0, 0, 0, 0, 0, 0, 0]
def kd (t : Nat) : Nat := kdL.getD t 99
def al (t : Nat) : Nat := alL.getD t 0
def rb (t : Nat) : Nat := rbL.getD t 0
def rl (t : Nat) : Nat := rlL.getD t 0
/-- the fields of a class: 0 int, 1 boolean, 2 long, 3 the tag so much on, 4 the tag that stands in the memory, 5 that tag -/
def fkL : Nat → List (Nat × Nat) := fun c => match c with
  | 0 => [(3, 1), (0, 0), (0, 0)]
  | 1 => [(5, 2), (5, 5), (5, 8), (5, 11), (5, 15), (0, 0), (0, 0), (0, 0), (0, 0), (0, 0)]
  | 2 => [(3, 5), (0, 0)]
  | 3 => [(3, 1)]
  | 4 => [(3, 1), (3, 2), (0, 0), (0, 0)]
  | 5 => [(5, 17), (5, 18), (5, 19), (5, 20), (5, 21), (5, 22), (5, 23), (5, 24), (5, 25), (0, 0), (0, 0), (1, 0)]
  | 6 => [(5, 1), (5, 71), (5, 2), (5, 4), (5, 16), (4, 0), (4, 0), (0, 0), (1, 0), (1, 0), (1, 0), (1, 0)]
  | _ => [(0, 0), (5, 73), (5, 74), (0, 0), (5, 75), (5, 77), (0, 0), (0, 0), (1, 0), (1, 0), (1, 0), (1, 0), (5, 78), (5, 79), (5, 80), (5, 81), (5, 82), (5, 83), (5, 84), (5, 85), (5, 86), (5, 87), (5, 88), (0, 0), (5, 89), (0, 0), (0, 0), (0, 0), (0, 0), (5, 90), (5, 91), (0, 0), (5, 92), (5, 93), (5, 94), (5, 95), (5, 40), (5, 39), (2, 0), (2, 0)]
def fk (c k : Nat) : Nat × Nat := (fkL c).getD k (0, 0)
def Rn (c : Nat) : String := match c with
  | 0 => RX0 | 1 => RX1 | 2 => RX2 | 3 => RX3 | 4 => RX4 | 5 => RX5 | 6 => RX6 | _ => RX7
def Tn (c : Nat) : u_T := match c with
  | 0 => TX0 | 1 => TX1 | 2 => TX2 | 3 => TX3 | 4 => TX4 | 5 => TX5 | 6 => TX6 | _ => TX7
def tyn (c : Nat) : Nat → FieldType := match c with
  | 0 => tyX0 | 1 => tyX1 | 2 => tyX2 | 3 => tyX3 | 4 => tyX4 | 5 => tyX5 | 6 => tyX6 | _ => tyX7
def nfn (c : Nat) : Nat := match c with
  | 0 => 3 | 1 => 10 | 2 => 2 | 3 => 1 | 4 => 4 | 5 => 12 | 6 => 12 | _ => 40
abbrev classes : List vw_C := [(RX0, TX0, 3), (RX1, TX1, 10), (RX2, TX2, 2), (RX3, TX3, 1), (RX4, TX4, 4), (RX5, TX5, 12), (RX6, TX6, 12), (RX7, TX7, 40)]
/-- a value of the picture (a reference is a tag) in the machine -/
def cv (ad : Nat → Nat) : Value → Value
  | .ref t => .ref (ad t)
  | v => v
def fvA (M : Mem) (c t k : Nat) : Value := match fk c k with
  | (2, _) => .long (M t k).toInt64
  | (3, d) => .ref (t + d)
  | (4, _) => .ref (M t k).toNatClampNeg
  | (5, d) => .ref d
  | _ => .int (M t k)
/-- what the heap holds at a tag -/
def cellAt (D : va_G) (κ : ClassId × ClassId × ClassId) (ad : Nat → Nat) (M : Mem) (t : Nat) (H : Heap) : Prop :=
  if kd t = 8 then H[ad t]? = some (arrV κ.1 (al t) (fun j => .int (M t j)))
  else if kd t = 9 then H[ad t]? = some (arrV κ.2.1 (rl t) (fun j => .ref (ad (rb t + j))))
  else if kd t = 10 then H[ad t]? = some (arrV κ.2.2 (rl t) (fun j => .ref (ad (rb t + j))))
  else t_OB (ad t) (D.1 (kd t)) (nfn (kd t)) (D.2 (kd t)) H (fun k => cv ad (fvA M (kd t) t k))
def ltr (j : Nat) : Int32 := match j with
  | 0 => 65 | 1 => 67 | 2 => 71 | _ => 84
/-- the whole memory -/
def Wd (D : va_G) (κ : ClassId × ClassId × ClassId) (ad : Nat → Nat) (M : Mem) (H : Heap) : Prop := (∀ t, t < 96 → cellAt D κ ad M t H) ∧ (∀ j, j < 4 → M 96 j = ltr j) ∧ ∀ j, j < 5 → M 97 j = 1
def ownA (ad : Nat → Nat) : Nat → Prop := fun q => ∃ t, t < 96 ∧ q = ad t
abbrev tysA (κ : ClassId × ClassId × ClassId) : List (ClassId × FieldType) := [(κ.1, .int), (κ.2.1, .object RX2), (κ.2.2, .array .int)]
/-- what else a state must say: the tables, the tags apart, the two static arrays, the links among nest mates -/
def Kx (D : va_G) (κ : ClassId × ClassId × ClassId) (ad : Nat → Nat) (U : State) : Prop :=
  va_K D classes (tysA κ) U ∧ (∀ i j, i < 96 → j < 96 → ad i = ad j → i = j) ∧
  va_Z RX6 "LETTERS" "[C" (.ref (ad 96)) (ownA ad) U U.heap ∧ va_Z RX6 "EQUAL_WEIGHTS" "[I" (.ref (ad 97)) (ownA ad) U U.heap ∧
  va_T .char (ad 96) 4 (fun j => .int (ltr j)) (ownA ad) U U.heap ∧ va_T .int (ad 97) 5 (fun _ => .int 1) (ownA ad) U U.heap ∧
  va_Nw (.methodLinkNest RX4 28 yX6_holds RX6) U ∧ va_Nw (.methodLinkNest RX3 28 yX6_holds RX6) U ∧ va_Nw (.methodLinkNest RX5 83 yX6_holds RX6) U
theorem Kx.moved {D : va_G} {κ : ClassId × ClassId × ClassId} {ad : Nat → Nat} {s U : State} (hW : s.WarmedH U.vm) (hq : ∀ a : Nat, a < s.heap.size → ¬ ownA ad a → U.heap[a]? = s.heap[a]?) (h : Kx D κ ad s) : Kx D κ ad U :=
  ⟨va_K.moved hW.alike h.1, h.2.1, (va_Z.moved hW.alike h.2.2.1).kept hq, (va_Z.moved hW.alike h.2.2.2.1).kept hq, (va_T.moved hW.alike h.2.2.2.2.1).kept hq, (va_T.moved hW.alike h.2.2.2.2.2.1).kept hq, va_Nw.warmM hW h.2.2.2.2.2.2.1, va_Nw.warmM hW h.2.2.2.2.2.2.2.1, va_Nw.warmM hW h.2.2.2.2.2.2.2.2⟩
/-- the words of all methods: those of the tables that any state further on keeps -/
def TB : List Cond := lw_tbl.filter goodWord
theorem TB_in {w : Cond} (h : w ∈ lw_tbl) (hg : goodWord w = true) : w ∈ TB := List.mem_filter.mpr ⟨h, hg⟩
theorem TB_good {big : List Cond} (h : ∀ w ∈ TB, w ∈ big) : GoodIn big TB := fun w hw => ⟨h w hw, good_of_word (List.mem_filter.mp hw).2⟩
/-- a method: name, code, locals, answer, frames and words of locals below it -/
abbrev MI : Type := MethodName × ByteArray × Nat × Option FieldType × Nat × Nat
abbrev MI.y (q : MI) : MethodName := q.1
abbrev MI.cc (q : MI) : ByteArray := q.2.1
abbrev MI.ml (q : MI) : Nat := q.2.2.1
abbrev MI.rt (q : MI) : Option FieldType := q.2.2.2.1
abbrev MI.rm (q : MI) : Room := { frames := q.2.2.2.2.1, cells := 0, slots := 0, locals := q.2.2.2.2.2 }
def MI.ws (q : MI) : List Cond := .code q.y q.cc q.ml q.rt :: TB
def Qx (D : va_G) (κ : ClassId × ClassId × ClassId) (ad : Nat → Nat) (Post : Option Value → Mem → Prop) : Array Value → State → Outcome → State → Prop := fun _ st oc t =>
  (∃ (r : Option Value) (M : Mem), oc = .returned (r.map (cv ad)) ∧ Post r M ∧ Wd D κ ad M t.heap) ∧ va_F (ownA ad) st t
/-- A METHOD'S CONTRACT: with these arguments and this memory it returns, and Post holds of its answer and the memory then -/
def Spec (q : MI) (av : List Value) (M : Mem) (Post : Option Value → Mem → Prop) : Prop := ∀ (l : Launch) (D : va_G) (κ : ClassId × ClassId × ClassId) (ad : Nat → Nat),
  Met l q.y q.ws q.rm (va_Pc (av.map (cv ad)) (fun U => Wd D κ ad M U.heap ∧ Kx D κ ad U)) (Qx D κ ad Post) 0 0 (ownA ad)
/-- what holds all through a method's body -/
def Cx (q : MI) (D : va_G) (κ : ClassId × ClassId × ClassId) (ad : Nat → Nat) (p : Program) (s : State) (m : MethodId) (args : Array Value) (meth : Method) (c : Code) : Prop :=
  p.tables.exec = Jvm.exec ∧ c.code = q.cc ∧ meth.sig.returnType = q.rt ∧ c.maxLocals = q.ml ∧ s.vm.findClass q.y.cls = some m.cls ∧ (∀ w ∈ q.ws, w.before args s = true) ∧ meth.locks = false ∧ Kx D κ ad s
def lvs (ad : Nat → Nat) (n : Nat) (ls : List (Option Value)) (la : Array Slot) : Prop := la.size = n ∧ lv_wf la ∧ ∀ (i : Nat) (v : Value), ls[i]? = some (some v) → la[i]? = some (.val (cv ad v))
/-- THE JUDGEMENT: the method, now at pc with these locals, this stack and this memory, returns, and Post holds -/
def G (q : MI) (pc : Nat) (ls : List (Option Value)) (st : List Value) (M : Mem) (Post : Option Value → Mem → Prop) : Prop :=
  ∀ (D : va_G) (κ : ClassId × ClassId × ClassId) (ad : Nat → Nat) (p : Program) (l : Launch) (e : Env) (s : State) (m : MethodId) (args : Array Value) (below : List Frame) (meth : Method) (c : Code) (H : Heap) (locs : List Loc) (la : Array Slot),
    Cx q D κ ad p s m args meth c → Wd D κ ad M H → va_S (ownA ad) s.heap H locs → lvs ad q.ml ls la →
    W p l e q.rm s m args below meth c H locs 0 0 (MQ below (Qx D κ ad Post) args s 0 0 (ownA ad)) (F0 m pc la (st.map (cv ad)))
end
section
/-! ROWS OF THE JUDGEMENT G, an instruction each -/
section GR
variable {q : MI} {pc : Nat} {ls : List (Option Value)} {st : List Value} {M : Mem} {Post : Option Value → Mem → Prop}
theorem g_iadd {x y : Int32} (hd : decode q.cc pc = .ok (.iadd, 1))  (k : G q (pc + 1) ls (.int (x + y) :: st) M Post) : G q pc ls (.int y :: .int x :: st) M Post := by
  intro D κ ad p l e s m args below meth c H locs la C hW hS hl
  exact lv_iadd C.1 C.2.1 hd  (k D κ ad p l e s m args below meth c H locs la C hW hS hl)
theorem g_isub {x y : Int32} (hd : decode q.cc pc = .ok (.isub, 1))  (k : G q (pc + 1) ls (.int (x - y) :: st) M Post) : G q pc ls (.int y :: .int x :: st) M Post := by
  intro D κ ad p l e s m args below meth c H locs la C hW hS hl
  exact lv_isub C.1 C.2.1 hd  (k D κ ad p l e s m args below meth c H locs la C hW hS hl)
theorem g_imul {x y : Int32} (hd : decode q.cc pc = .ok (.imul, 1))  (k : G q (pc + 1) ls (.int (x * y) :: st) M Post) : G q pc ls (.int y :: .int x :: st) M Post := by
  intro D κ ad p l e s m args below meth c H locs la C hW hS hl
  exact lv_imul C.1 C.2.1 hd  (k D κ ad p l e s m args below meth c H locs la C hW hS hl)
theorem g_iand {x y : Int32} (hd : decode q.cc pc = .ok (.iand, 1))  (k : G q (pc + 1) ls (.int (x &&& y) :: st) M Post) : G q pc ls (.int y :: .int x :: st) M Post := by
  intro D κ ad p l e s m args below meth c H locs la C hW hS hl
  exact lv_iand C.1 C.2.1 hd  (k D κ ad p l e s m args below meth c H locs la C hW hS hl)
theorem g_ior {x y : Int32} (hd : decode q.cc pc = .ok (.ior, 1))  (k : G q (pc + 1) ls (.int (x ||| y) :: st) M Post) : G q pc ls (.int y :: .int x :: st) M Post := by
  intro D κ ad p l e s m args below meth c H locs la C hW hS hl
  exact lv_ior C.1 C.2.1 hd  (k D κ ad p l e s m args below meth c H locs la C hW hS hl)
theorem g_ixor {x y : Int32} (hd : decode q.cc pc = .ok (.ixor, 1))  (k : G q (pc + 1) ls (.int (x ^^^ y) :: st) M Post) : G q pc ls (.int y :: .int x :: st) M Post := by
  intro D κ ad p l e s m args below meth c H locs la C hW hS hl
  exact lv_ixor C.1 C.2.1 hd  (k D κ ad p l e s m args below meth c H locs la C hW hS hl)
theorem g_ishl {x y : Int32} (hd : decode q.cc pc = .ok (.ishl, 1))  (k : G q (pc + 1) ls (.int (x <<< (y &&& 31)) :: st) M Post) : G q pc ls (.int y :: .int x :: st) M Post := by
  intro D κ ad p l e s m args below meth c H locs la C hW hS hl
  exact lv_ishl C.1 C.2.1 hd  (k D κ ad p l e s m args below meth c H locs la C hW hS hl)
theorem g_ishr {x y : Int32} (hd : decode q.cc pc = .ok (.ishr, 1))  (k : G q (pc + 1) ls (.int (x >>> (y &&& 31)) :: st) M Post) : G q pc ls (.int y :: .int x :: st) M Post := by
  intro D κ ad p l e s m args below meth c H locs la C hW hS hl
  exact lv_ishr C.1 C.2.1 hd  (k D κ ad p l e s m args below meth c H locs la C hW hS hl)
theorem g_idiv {x y : Int32} (hd : decode q.cc pc = .ok (.idiv, 1)) (hne : ¬ y = 0) (k : G q (pc + 1) ls (.int (x / y) :: st) M Post) : G q pc ls (.int y :: .int x :: st) M Post := by
  intro D κ ad p l e s m args below meth c H locs la C hW hS hl
  exact lv_idiv C.1 C.2.1 hd hne (k D κ ad p l e s m args below meth c H locs la C hW hS hl)
theorem g_irem {x y : Int32} (hd : decode q.cc pc = .ok (.irem, 1)) (hne : ¬ y = 0) (k : G q (pc + 1) ls (.int (x - x / y * y) :: st) M Post) : G q pc ls (.int y :: .int x :: st) M Post := by
  intro D κ ad p l e s m args below meth c H locs la C hW hS hl
  exact lv_irem C.1 C.2.1 hd hne (k D κ ad p l e s m args below meth c H locs la C hW hS hl)
theorem g_ladd {x y : Int64} (hd : decode q.cc pc = .ok (.ladd, 1))  (k : G q (pc + 1) ls (.long (x + y) :: st) M Post) : G q pc ls (.long y :: .long x :: st) M Post := by
  intro D κ ad p l e s m args below meth c H locs la C hW hS hl
  exact lv_ladd C.1 C.2.1 hd  (k D κ ad p l e s m args below meth c H locs la C hW hS hl)
theorem g_lsub {x y : Int64} (hd : decode q.cc pc = .ok (.lsub, 1))  (k : G q (pc + 1) ls (.long (x - y) :: st) M Post) : G q pc ls (.long y :: .long x :: st) M Post := by
  intro D κ ad p l e s m args below meth c H locs la C hW hS hl
  exact lv_lsub C.1 C.2.1 hd  (k D κ ad p l e s m args below meth c H locs la C hW hS hl)
theorem g_lmul {x y : Int64} (hd : decode q.cc pc = .ok (.lmul, 1))  (k : G q (pc + 1) ls (.long (x * y) :: st) M Post) : G q pc ls (.long y :: .long x :: st) M Post := by
  intro D κ ad p l e s m args below meth c H locs la C hW hS hl
  exact lv_lmul C.1 C.2.1 hd  (k D κ ad p l e s m args below meth c H locs la C hW hS hl)
theorem g_ldiv {x y : Int64} (hd : decode q.cc pc = .ok (.ldiv, 1)) (hne : ¬ y = 0) (k : G q (pc + 1) ls (.long (x / y) :: st) M Post) : G q pc ls (.long y :: .long x :: st) M Post := by
  intro D κ ad p l e s m args below meth c H locs la C hW hS hl
  exact lv_ldiv C.1 C.2.1 hd hne (k D κ ad p l e s m args below meth c H locs la C hW hS hl)
theorem g_lcmp {x y : Int64} (hd : decode q.cc pc = .ok (.lcmp, 1))  (k : G q (pc + 1) ls (.int (lg_cmp x y) :: st) M Post) : G q pc ls (.long y :: .long x :: st) M Post := by
  intro D κ ad p l e s m args below meth c H locs la C hW hS hl
  exact W.lcmp C.1 C.2.1 hd  (k D κ ad p l e s m args below meth c H locs la C hW hS hl)
theorem g_ineg {x : Int32} (hd : decode q.cc pc = .ok (.ineg, 1))  (k : G q (pc + 1) ls (.int (-x) :: st) M Post) : G q pc ls (.int x :: st) M Post := by
  intro D κ ad p l e s m args below meth c H locs la C hW hS hl
  exact lv_ineg C.1 C.2.1 hd  (k D κ ad p l e s m args below meth c H locs la C hW hS hl)
theorem g_i2l {x : Int32} (hd : decode q.cc pc = .ok (.i2l, 1))  (k : G q (pc + 1) ls (.long x.toInt64 :: st) M Post) : G q pc ls (.int x :: st) M Post := by
  intro D κ ad p l e s m args below meth c H locs la C hW hS hl
  exact lv_i2l C.1 C.2.1 hd rfl (k D κ ad p l e s m args below meth c H locs la C hW hS hl)
theorem g_l2i {x : Int64} (hd : decode q.cc pc = .ok (.l2i, 1))  (k : G q (pc + 1) ls (.int x.toInt32 :: st) M Post) : G q pc ls (.long x :: st) M Post := by
  intro D κ ad p l e s m args below meth c H locs la C hW hS hl
  exact lv_l2i C.1 C.2.1 hd rfl (k D κ ad p l e s m args below meth c H locs la C hW hS hl)
theorem g_i2c {x : Int32} (hd : decode q.cc pc = .ok (.i2c, 1))  (k : G q (pc + 1) ls (.int (x.toUInt32 % 65536).toInt32 :: st) M Post) : G q pc ls (.int x :: st) M Post := by
  intro D κ ad p l e s m args below meth c H locs la C hW hS hl
  exact lv_i2c C.1 C.2.1 hd rfl (k D κ ad p l e s m args below meth c H locs la C hW hS hl)
theorem g_iconst {n : Int} {v : Int32} (hd : decode q.cc pc = .ok (.iconst n, 1)) (hv : Int32.ofInt n = v) (k : G q (pc + 1) ls (.int v :: st) M Post) : G q pc ls st M Post := by
  intro D κ ad p l e s m args below meth c H locs la C hW hS hl
  exact lv_iconst C.1 C.2.1 hd hv (k D κ ad p l e s m args below meth c H locs la C hW hS hl)
theorem g_bipush {n : Int} {v : Int32} (hd : decode q.cc pc = .ok (.bipush n, 2)) (hv : (Int8.ofInt n).toInt32 = v) (k : G q (pc + 2) ls (.int v :: st) M Post) : G q pc ls st M Post := by
  intro D κ ad p l e s m args below meth c H locs la C hW hS hl
  exact lv_bipush C.1 C.2.1 hd hv (k D κ ad p l e s m args below meth c H locs la C hW hS hl)
theorem g_sipush {n : Int} {v : Int32} (hd : decode q.cc pc = .ok (.sipush n, 3)) (hv : (Int16.ofInt n).toInt32 = v) (k : G q (pc + 3) ls (.int v :: st) M Post) : G q pc ls st M Post := by
  intro D κ ad p l e s m args below meth c H locs la C hW hS hl
  exact lv_sipush C.1 C.2.1 hd hv (k D κ ad p l e s m args below meth c H locs la C hW hS hl)
theorem g_lconst {n : Fin 2} (hd : decode q.cc pc = .ok (.lconst n, 1))  (k : G q (pc + 1) ls (.long (Int64.ofNat n) :: st) M Post) : G q pc ls st M Post := by
  intro D κ ad p l e s m args below meth c H locs la C hW hS hl
  exact lv_lconst C.1 C.2.1 hd rfl (k D κ ad p l e s m args below meth c H locs la C hW hS hl)
theorem cv_cat (ad : Nat → Nat) (v : Value) : (cv ad v).category = v.category := by cases v <;> rfl
theorem g_ldc {index : Nat} {v : Int32} (hd : decode q.cc pc = .ok (.ldc index, 2)) (hc : Cond.constant q.y.cls index v ∈ TB) (k : G q (pc + 2) ls (.int v :: st) M Post) : G q pc ls st M Post := by
  intro D κ ad p l e s m args below meth c H locs la C hW hS hl
  exact lv_ldc C.1 C.2.1 C.2.2.2.2.1 (C.2.2.2.2.2.1 _ (List.mem_cons_of_mem _ hc)) hd (k D κ ad p l e s m args below meth c H locs la C hW hS hl)
theorem g_ldc2 {index : Nat} {v : Int64} (hd : decode q.cc pc = .ok (.ldc2_w index, 3)) (hc : Cond.constantLong q.y.cls index v ∈ TB) (k : G q (pc + 3) ls (.long v :: st) M Post) : G q pc ls st M Post := by
  intro D κ ad p l e s m args below meth c H locs la C hW hS hl
  exact lv_ldc2 C.1 C.2.1 C.2.2.2.2.1 (C.2.2.2.2.2.1 _ (List.mem_cons_of_mem _ hc)) hd (k D κ ad p l e s m args below meth c H locs la C hW hS hl)
theorem g_dup {v : Value} (hd : decode q.cc pc = .ok (.dup, 1)) (hv : v.category = 1) (k : G q (pc + 1) ls (v :: v :: st) M Post) : G q pc ls (v :: st) M Post := by
  intro D κ ad p l e s m args below meth c H locs la C hW hS hl
  exact lv_dup C.1 C.2.1 hd ((cv_cat ad v).trans hv) (k D κ ad p l e s m args below meth c H locs la C hW hS hl)
theorem g_pop {v : Value} (hd : decode q.cc pc = .ok (.pop, 1)) (hv : v.category = 1) (k : G q (pc + 1) ls st M Post) : G q pc ls (v :: st) M Post := by
  intro D κ ad p l e s m args below meth c H locs la C hW hS hl
  exact lv_pop C.1 C.2.1 hd ((cv_cat ad v).trans hv) (k D κ ad p l e s m args below meth c H locs la C hW hS hl)
theorem g_dup2 {v w : Value} (hd : decode q.cc pc = .ok (.dup2, 1)) (hv : v.category = 1) (hw : w.category = 1) (k : G q (pc + 1) ls (v :: w :: v :: w :: st) M Post) : G q pc ls (v :: w :: st) M Post := by
  intro D κ ad p l e s m args below meth c H locs la C hW hS hl
  exact lv_dup2_11 C.1 C.2.1 hd ((cv_cat ad v).trans hv) ((cv_cat ad w).trans hw) (k D κ ad p l e s m args below meth c H locs la C hW hS hl)
theorem g_dup_x1 {v w : Value} (hd : decode q.cc pc = .ok (.dup_x1, 1)) (hv : v.category = 1) (hw : w.category = 1) (k : G q (pc + 1) ls (v :: w :: v :: st) M Post) : G q pc ls (v :: w :: st) M Post := by
  intro D κ ad p l e s m args below meth c H locs la C hW hS hl
  exact lv_dup_x1 C.1 C.2.1 hd ((cv_cat ad v).trans hv) ((cv_cat ad w).trans hw) (k D κ ad p l e s m args below meth c H locs la C hW hS hl)
theorem g_iload_n {x : Int32} {n : Fin 4} (hd : decode q.cc pc = .ok (.iload_n n, 1)) (hv : ls[n.val]? = some (some (.int x))) (k : G q (pc + 1) ls (.int x :: st) M Post) : G q pc ls st M Post := by
  intro D κ ad p l e s m args below meth c H locs la C hW hS hl
  exact lv_iload_n C.1 C.2.1 hd rfl (hl.2.2 _ _ hv) (k D κ ad p l e s m args below meth c H locs la C hW hS hl)
theorem g_iload {x : Int32} {n : Nat} (hd : decode q.cc pc = .ok (.iload n, 2)) (hv : ls[n]? = some (some (.int x))) (k : G q (pc + 2) ls (.int x :: st) M Post) : G q pc ls st M Post := by
  intro D κ ad p l e s m args below meth c H locs la C hW hS hl
  exact lv_iload C.1 C.2.1 hd (hl.2.2 _ _ hv) (k D κ ad p l e s m args below meth c H locs la C hW hS hl)
theorem g_aload_n {x : Nat} {n : Fin 4} (hd : decode q.cc pc = .ok (.aload_n n, 1)) (hv : ls[n.val]? = some (some (.ref x))) (k : G q (pc + 1) ls (.ref x :: st) M Post) : G q pc ls st M Post := by
  intro D κ ad p l e s m args below meth c H locs la C hW hS hl
  exact lv_aload_n C.1 C.2.1 hd rfl (hl.2.2 _ _ hv) (k D κ ad p l e s m args below meth c H locs la C hW hS hl)
theorem g_aload {x : Nat} {n : Nat} (hd : decode q.cc pc = .ok (.aload n, 2)) (hv : ls[n]? = some (some (.ref x))) (k : G q (pc + 2) ls (.ref x :: st) M Post) : G q pc ls st M Post := by
  intro D κ ad p l e s m args below meth c H locs la C hW hS hl
  exact lv_aload C.1 C.2.1 hd (hl.2.2 _ _ hv) (k D κ ad p l e s m args below meth c H locs la C hW hS hl)
theorem g_lload_n {x : Int64} {n : Fin 4} (hd : decode q.cc pc = .ok (.lload_n n, 1)) (hv : ls[n.val]? = some (some (.long x))) (k : G q (pc + 1) ls (.long x :: st) M Post) : G q pc ls st M Post := by
  intro D κ ad p l e s m args below meth c H locs la C hW hS hl
  exact lv_lload_n C.1 C.2.1 hd rfl (hl.2.2 _ _ hv) (k D κ ad p l e s m args below meth c H locs la C hW hS hl)
theorem g_lload {x : Int64} {n : Nat} (hd : decode q.cc pc = .ok (.lload n, 2)) (hv : ls[n]? = some (some (.long x))) (k : G q (pc + 2) ls (.long x :: st) M Post) : G q pc ls st M Post := by
  intro D κ ad p l e s m args below meth c H locs la C hW hS hl
  exact lv_lload C.1 C.2.1 hd (hl.2.2 _ _ hv) (k D κ ad p l e s m args below meth c H locs la C hW hS hl)
/-- the locals behind a store of one word at i: a long just before it is gone -/
def lset (ls : List (Option Value)) (i : Nat) (v : Value) : List (Option Value) := match i with
  | 0 => ls.set 0 (some v)
  | j + 1 => (match ls[j]? with
    | some (some (.long _)) => ls.set j none
    | some (some (.double _)) => ls.set j none
    | _ => ls).set (j + 1) (some v)
def prs (ad : Nat → Nat) (ls : List (Option Value)) : List (Nat × Value) := (List.range ls.length).filterMap (fun j => match ls[j]? with
  | some (some v) => some (j, cv ad v)
  | _ => none)
theorem prs_in {ad : Nat → Nat} {ls : List (Option Value)} {j : Nat} {v : Value} : (j, v) ∈ prs ad ls ↔ ∃ w, ls[j]? = some (some w) ∧ v = cv ad w := by
  unfold prs
  rw [List.mem_filterMap]
  constructor
  · rintro ⟨a, -, ha⟩
    split at ha
    · next w hw =>
      cases ha
      exact ⟨w, hw, rfl⟩
    · cases ha
  · rintro ⟨w, hw, rfl⟩
    exact ⟨j, List.mem_range.mpr (List.getElem?_eq_some_iff.mp hw).1, by simp [hw]⟩
theorem lvs.has {ad : Nat → Nat} {n : Nat} {ls : List (Option Value)} {la : Array Slot} (h : lvs ad n ls la) : lv_has la n (prs ad ls) := by
  refine ⟨h.1, h.2.1, fun x hx => ?_⟩
  obtain ⟨j, v⟩ := x
  obtain ⟨w, hw, rfl⟩ := prs_in.mp hx
  exact h.2.2 j w hw
theorem lvs.of {ad : Nat → Nat} {n : Nat} {ls : List (Option Value)} {la : Array Slot} {l : List (Nat × Value)} (h : lv_has la n l) (hi : ∀ (j : Nat) (v : Value), ls[j]? = some (some v) → (j, cv ad v) ∈ l) : lvs ad n ls la :=
  ⟨h.1, h.2.1, fun i v hv => h.2.2 _ (hi i v hv)⟩
theorem lset_get {ls : List (Option Value)} {i : Nat} {v : Value} {j : Nat} {w : Value} (h : (lset ls i v)[j]? = some (some w)) : (j = i ∧ w = v) ∨ (j ≠ i ∧ ls[j]? = some (some w) ∧ ¬ (j + 1 = i ∧ w.category = 2)) := by
  by_cases hj : j = i
  · left
    refine ⟨hj, ?_⟩
    subst hj
    unfold lset at h
    split at h
    · rw [List.getElem?_set] at h
      simp at h
      exact h.2.symm
    · rw [List.getElem?_set] at h
      simp at h
      exact h.2.symm
  · right
    refine ⟨hj, ?_⟩
    unfold lset at h
    split at h
    · rw [List.getElem?_set_ne (by omega)] at h
      exact ⟨h, fun q => by omega⟩
    · next k =>
      rw [List.getElem?_set_ne (by omega)] at h
      split at h
      · next hz =>
        by_cases hk : j = k
        · subst hk
          rw [List.getElem?_set] at h
          simp at h
        · rw [List.getElem?_set_ne (by omega)] at h
          exact ⟨h, fun q => by omega⟩
      · next hz =>
        by_cases hk : j = k
        · subst hk
          rw [List.getElem?_set] at h
          simp at h
        · rw [List.getElem?_set_ne (by omega)] at h
          exact ⟨h, fun q => by omega⟩
      · next h1 h2 =>
        refine ⟨h, fun q => ?_⟩
        have hk : j = k := by omega
        subst hk
        cases w with
        | long x => exact h1 x h
        | double x => exact h2 x h
        | int x => exact absurd q.2 (by simp [Value.category])
        | float x => exact absurd q.2 (by simp [Value.category])
        | ref x => exact absurd q.2 (by simp [Value.category])
        | null => exact absurd q.2 (by simp [Value.category])
        | retAddr x => exact absurd q.2 (by simp [Value.category])
theorem lvs.put {ad : Nat → Nat} {n i : Nat} {ls : List (Option Value)} {la : Array Slot} {v : Value} (h : lv_has la n ((i, cv ad v) :: (prs ad ls).filter (fun q => !(q.1 == i) && !(q.1 + 1 == i && q.2.category == 2)))) : lvs ad n (lset ls i v) la := by
  refine lvs.of h (fun j w hw => ?_)
  rcases lset_get hw with ⟨rfl, rfl⟩ | ⟨h1, h2, h3⟩
  · exact List.mem_cons_self
  · refine List.mem_cons_of_mem _ (List.mem_filter.mpr ⟨prs_in.mpr ⟨w, h2, rfl⟩, ?_⟩)
    simp only [Bool.and_eq_true, Bool.not_eq_true', beq_eq_false_iff_ne, ne_eq]
    refine ⟨h1, ?_⟩
    simp only [Bool.and_eq_false_iff, beq_eq_false_iff_ne, ne_eq, cv_cat]
    by_cases e : j + 1 = i
    · right; exact fun z => h3 ⟨e, z⟩
    · left; exact e
theorem g_istore_n {x : Int32} {n : Fin 4} (hd : decode q.cc pc = .ok (.istore_n n, 1)) (hn : n.val < q.ml) (k : G q (pc + 1) (lset ls n.val (.int x)) st M Post) : G q pc ls (.int x :: st) M Post := by
  intro D κ ad p l e s m args below meth c H locs la C hW hS hl
  exact lv_istore_n C.1 C.2.1 hd rfl hl.has hn rfl (fun la' h' => k D κ ad p l e s m args below meth c H locs la' C hW hS (lvs.put (v := .int x) h'))
theorem g_istore {x : Int32} {n : Nat} (hd : decode q.cc pc = .ok (.istore n, 2)) (hn : n < q.ml) (k : G q (pc + 2) (lset ls n (.int x)) st M Post) : G q pc ls (.int x :: st) M Post := by
  intro D κ ad p l e s m args below meth c H locs la C hW hS hl
  exact lv_istore C.1 C.2.1 hd hl.has hn rfl (fun la' h' => k D κ ad p l e s m args below meth c H locs la' C hW hS (lvs.put (v := .int x) h'))
theorem g_astore_n {x : Nat} {n : Fin 4} (hd : decode q.cc pc = .ok (.astore_n n, 1)) (hn : n.val < q.ml) (k : G q (pc + 1) (lset ls n.val (.ref x)) st M Post) : G q pc ls (.ref x :: st) M Post := by
  intro D κ ad p l e s m args below meth c H locs la C hW hS hl
  exact lv_astore_n C.1 C.2.1 hd rfl hl.has hn rfl (fun la' h' => k D κ ad p l e s m args below meth c H locs la' C hW hS (lvs.put (v := .ref x) h'))
theorem g_astore {x : Nat} {n : Nat} (hd : decode q.cc pc = .ok (.astore n, 2)) (hn : n < q.ml) (k : G q (pc + 2) (lset ls n (.ref x)) st M Post) : G q pc ls (.ref x :: st) M Post := by
  intro D κ ad p l e s m args below meth c H locs la C hW hS hl
  exact lv_astore C.1 C.2.1 hd hl.has hn rfl (fun la' h' => k D κ ad p l e s m args below meth c H locs la' C hW hS (lvs.put (v := .ref x) h'))
theorem g_iinc {x : Int32} {n : Nat} {d : Int} {v : Int32} (hd : decode q.cc pc = .ok (.iinc n d, 3)) (hx : ls[n]? = some (some (.int x))) (hv : Int32.ofInt d = v) (hn : n < q.ml) (k : G q (pc + 3) (lset ls n (.int (x + v))) st M Post) : G q pc ls st M Post := by
  intro D κ ad p l e s m args below meth c H locs la C hW hS hl
  obtain ⟨j, hj⟩ := List.getElem?_of_mem (prs_in.mpr ⟨_, hx, rfl⟩ : (n, cv ad (.int x)) ∈ prs ad ls)
  exact lv_iinc C.1 C.2.1 hd hl.has hj (v := x + v) (by rw [hv]) hn rfl (fun la' h' => k D κ ad p l e s m args below meth c H locs la' C hW hS (lvs.put (v := .int (x + v)) h'))
theorem g_goto {off : Int} {tgt : Nat} (hd : decode q.cc pc = .ok (.goto off, 3)) (ht : (pc : Int) + off = (tgt : Int)) (k : G q tgt ls st M Post) : G q pc ls st M Post := by
  intro D κ ad p l e s m args below meth c H locs la C hW hS hl
  exact lv_goto C.1 C.2.1 hd ht (k D κ ad p l e s m args below meth c H locs la C hW hS hl)
theorem g_if_eq {x : Int32} {off : Int} {tgt : Nat} (hd : decode q.cc pc = .ok (.ifCond .eq off, 3)) (ht : (pc : Int) + off = (tgt : Int)) (kt : x = 0 → G q tgt ls st M Post) (kf : ¬ x = 0 → G q (pc + 3) ls st M Post) : G q pc ls (.int x :: st) M Post := by
  intro D κ ad p l e s m args below meth c H locs la C hW hS hl
  exact lv_if_eq C.1 C.2.1 hd ht (fun h => kt h D κ ad p l e s m args below meth c H locs la C hW hS hl) (fun h => kf h D κ ad p l e s m args below meth c H locs la C hW hS hl)
theorem g_icmp_eq {x y : Int32} {off : Int} {tgt : Nat} (hd : decode q.cc pc = .ok (.if_icmp .eq off, 3)) (ht : (pc : Int) + off = (tgt : Int)) (kt : x = y → G q tgt ls st M Post) (kf : ¬ x = y → G q (pc + 3) ls st M Post) : G q pc ls (.int y :: .int x :: st) M Post := by
  intro D κ ad p l e s m args below meth c H locs la C hW hS hl
  exact lv_icmp_eq C.1 C.2.1 hd ht (fun h => kt h D κ ad p l e s m args below meth c H locs la C hW hS hl) (fun h => kf h D κ ad p l e s m args below meth c H locs la C hW hS hl)
theorem g_if_ne {x : Int32} {off : Int} {tgt : Nat} (hd : decode q.cc pc = .ok (.ifCond .ne off, 3)) (ht : (pc : Int) + off = (tgt : Int)) (kt : ¬ x = 0 → G q tgt ls st M Post) (kf : x = 0 → G q (pc + 3) ls st M Post) : G q pc ls (.int x :: st) M Post := by
  intro D κ ad p l e s m args below meth c H locs la C hW hS hl
  exact lv_if_ne C.1 C.2.1 hd ht (fun h => kt h D κ ad p l e s m args below meth c H locs la C hW hS hl) (fun h => kf h D κ ad p l e s m args below meth c H locs la C hW hS hl)
theorem g_icmp_ne {x y : Int32} {off : Int} {tgt : Nat} (hd : decode q.cc pc = .ok (.if_icmp .ne off, 3)) (ht : (pc : Int) + off = (tgt : Int)) (kt : ¬ x = y → G q tgt ls st M Post) (kf : x = y → G q (pc + 3) ls st M Post) : G q pc ls (.int y :: .int x :: st) M Post := by
  intro D κ ad p l e s m args below meth c H locs la C hW hS hl
  exact lv_icmp_ne C.1 C.2.1 hd ht (fun h => kt h D κ ad p l e s m args below meth c H locs la C hW hS hl) (fun h => kf h D κ ad p l e s m args below meth c H locs la C hW hS hl)
theorem g_if_lt {x : Int32} {off : Int} {tgt : Nat} (hd : decode q.cc pc = .ok (.ifCond .lt off, 3)) (ht : (pc : Int) + off = (tgt : Int)) (kt : x < 0 → G q tgt ls st M Post) (kf : ¬ x < 0 → G q (pc + 3) ls st M Post) : G q pc ls (.int x :: st) M Post := by
  intro D κ ad p l e s m args below meth c H locs la C hW hS hl
  exact lv_if_lt C.1 C.2.1 hd ht (fun h => kt h D κ ad p l e s m args below meth c H locs la C hW hS hl) (fun h => kf h D κ ad p l e s m args below meth c H locs la C hW hS hl)
theorem g_icmp_lt {x y : Int32} {off : Int} {tgt : Nat} (hd : decode q.cc pc = .ok (.if_icmp .lt off, 3)) (ht : (pc : Int) + off = (tgt : Int)) (kt : x < y → G q tgt ls st M Post) (kf : ¬ x < y → G q (pc + 3) ls st M Post) : G q pc ls (.int y :: .int x :: st) M Post := by
  intro D κ ad p l e s m args below meth c H locs la C hW hS hl
  exact lv_icmp_lt C.1 C.2.1 hd ht (fun h => kt h D κ ad p l e s m args below meth c H locs la C hW hS hl) (fun h => kf h D κ ad p l e s m args below meth c H locs la C hW hS hl)
theorem g_if_ge {x : Int32} {off : Int} {tgt : Nat} (hd : decode q.cc pc = .ok (.ifCond .ge off, 3)) (ht : (pc : Int) + off = (tgt : Int)) (kt : 0 ≤ x → G q tgt ls st M Post) (kf : ¬ 0 ≤ x → G q (pc + 3) ls st M Post) : G q pc ls (.int x :: st) M Post := by
  intro D κ ad p l e s m args below meth c H locs la C hW hS hl
  exact lv_if_ge C.1 C.2.1 hd ht (fun h => kt h D κ ad p l e s m args below meth c H locs la C hW hS hl) (fun h => kf h D κ ad p l e s m args below meth c H locs la C hW hS hl)
theorem g_icmp_ge {x y : Int32} {off : Int} {tgt : Nat} (hd : decode q.cc pc = .ok (.if_icmp .ge off, 3)) (ht : (pc : Int) + off = (tgt : Int)) (kt : y ≤ x → G q tgt ls st M Post) (kf : ¬ y ≤ x → G q (pc + 3) ls st M Post) : G q pc ls (.int y :: .int x :: st) M Post := by
  intro D κ ad p l e s m args below meth c H locs la C hW hS hl
  exact lv_icmp_ge C.1 C.2.1 hd ht (fun h => kt h D κ ad p l e s m args below meth c H locs la C hW hS hl) (fun h => kf h D κ ad p l e s m args below meth c H locs la C hW hS hl)
theorem g_if_gt {x : Int32} {off : Int} {tgt : Nat} (hd : decode q.cc pc = .ok (.ifCond .gt off, 3)) (ht : (pc : Int) + off = (tgt : Int)) (kt : 0 < x → G q tgt ls st M Post) (kf : ¬ 0 < x → G q (pc + 3) ls st M Post) : G q pc ls (.int x :: st) M Post := by
  intro D κ ad p l e s m args below meth c H locs la C hW hS hl
  exact lv_if_gt C.1 C.2.1 hd ht (fun h => kt h D κ ad p l e s m args below meth c H locs la C hW hS hl) (fun h => kf h D κ ad p l e s m args below meth c H locs la C hW hS hl)
theorem g_icmp_gt {x y : Int32} {off : Int} {tgt : Nat} (hd : decode q.cc pc = .ok (.if_icmp .gt off, 3)) (ht : (pc : Int) + off = (tgt : Int)) (kt : y < x → G q tgt ls st M Post) (kf : ¬ y < x → G q (pc + 3) ls st M Post) : G q pc ls (.int y :: .int x :: st) M Post := by
  intro D κ ad p l e s m args below meth c H locs la C hW hS hl
  exact lv_icmp_gt C.1 C.2.1 hd ht (fun h => kt h D κ ad p l e s m args below meth c H locs la C hW hS hl) (fun h => kf h D κ ad p l e s m args below meth c H locs la C hW hS hl)
theorem g_if_le {x : Int32} {off : Int} {tgt : Nat} (hd : decode q.cc pc = .ok (.ifCond .le off, 3)) (ht : (pc : Int) + off = (tgt : Int)) (kt : x ≤ 0 → G q tgt ls st M Post) (kf : ¬ x ≤ 0 → G q (pc + 3) ls st M Post) : G q pc ls (.int x :: st) M Post := by
  intro D κ ad p l e s m args below meth c H locs la C hW hS hl
  exact lv_if_le C.1 C.2.1 hd ht (fun h => kt h D κ ad p l e s m args below meth c H locs la C hW hS hl) (fun h => kf h D κ ad p l e s m args below meth c H locs la C hW hS hl)
theorem g_icmp_le {x y : Int32} {off : Int} {tgt : Nat} (hd : decode q.cc pc = .ok (.if_icmp .le off, 3)) (ht : (pc : Int) + off = (tgt : Int)) (kt : x ≤ y → G q tgt ls st M Post) (kf : ¬ x ≤ y → G q (pc + 3) ls st M Post) : G q pc ls (.int y :: .int x :: st) M Post := by
  intro D κ ad p l e s m args below meth c H locs la C hW hS hl
  exact lv_icmp_le C.1 C.2.1 hd ht (fun h => kt h D κ ad p l e s m args below meth c H locs la C hW hS hl) (fun h => kf h D κ ad p l e s m args below meth c H locs la C hW hS hl)
end GR
end
section
/-! rows that read and write the memory -/
theorem kd_lt {t : Nat} (h : kd t ≠ 99) : t < 96 := by
  rcases Nat.lt_or_ge t 96 with h1 | h1
  · exact h1
  · refine absurd ?_ h
    unfold kd
    rw [List.getD_eq_getElem?_getD, List.getElem?_eq_none (by show kdL.length ≤ t; exact h1)]
    rfl
theorem al_tag {t : Nat} (h : al t ≠ 0) : (t < 96 ∧ kd t = 8) ∨ t = 97 := by
  rcases Nat.lt_or_ge t 98 with h1 | h1
  · have := (by decide +kernel : ∀ t, t < 98 → al t ≠ 0 → (t < 96 ∧ kd t = 8) ∨ t = 97)
    exact this t h1 h
  · refine absurd ?_ h
    unfold al
    rw [List.getD_eq_getElem?_getD, List.getElem?_eq_none (by show alL.length ≤ t; exact h1)]
    rfl
theorem rl_tag {t : Nat} (h : rl t ≠ 0) : t < 96 ∧ (kd t = 9 ∨ kd t = 10) := by
  rcases Nat.lt_or_ge t 96 with h1 | h1
  · have := (by decide +kernel : ∀ t, t < 96 → rl t ≠ 0 → t < 96 ∧ (kd t = 9 ∨ kd t = 10))
    exact this t h1 h
  · refine absurd ?_ h
    unfold rl
    rw [List.getD_eq_getElem?_getD, List.getElem?_eq_none (by show rlL.length ≤ t; exact h1)]
    rfl
theorem cls_at {c : Nat} (h : c < 8) : classes[c]? = some (Rn c, Tn c, nfn c) := by
  match c, h with
  | 0, _ => rfl
  | 1, _ => rfl
  | 2, _ => rfl
  | 3, _ => rfl
  | 4, _ => rfl
  | 5, _ => rfl
  | 6, _ => rfl
  | 7, _ => rfl
theorem lays_in {c : Nat} (h : c < 8) : ∀ w ∈ u_ws (Rn c) (Tn c) (nfn c), w ∈ TB := by
  have hb : ∀ c, c < 8 → (u_ws (Rn c) (Tn c) (nfn c)).all goodWord = true := by decide +kernel
  have hm : ∀ w ∈ u_ws (Rn c) (Tn c) (nfn c), w ∈ lw_tbl := by
    match c, h with
    | 0, _ => decide +kernel
    | 1, _ => decide +kernel
    | 2, _ => decide +kernel
    | 3, _ => decide +kernel
    | 4, _ => decide +kernel
    | 5, _ => decide +kernel
    | 6, _ => decide +kernel
    | 7, _ => decide +kernel
  exact fun w hw => TB_in (hm w hw) (List.all_eq_true.mp (hb c h) w hw)
theorem tyn_ok {c : Nat} (h : c < 8) : ∀ k, k < nfn c → parseFieldDescriptor (Tn c k).2.2.1 = some (tyn c k) := by
  match c, h with
  | 0, _ => exact tyX0_ok
  | 1, _ => exact tyX1_ok
  | 2, _ => exact tyX2_ok
  | 3, _ => exact tyX3_ok
  | 4, _ => exact tyX4_ok
  | 5, _ => exact tyX5_ok
  | 6, _ => exact tyX6_ok
  | 7, _ => exact tyX7_ok
theorem nmn_ok {c : Nat} (h : c < 8) : ∀ a, a < nfn c → ∀ b, b < nfn c → a ≠ b → (Tn c a).2.1 ≠ (Tn c b).2.1 := by
  match c, h with
  | 0, _ => exact nmX0
  | 1, _ => exact nmX1
  | 2, _ => exact nmX2
  | 3, _ => exact nmX3
  | 4, _ => exact nmX4
  | 5, _ => exact nmX5
  | 6, _ => exact nmX6
  | 7, _ => exact nmX7
/-- a store -/
def stm (M : Mem) (t k : Nat) (v : Int32) : Mem := va_up M t (upd (M t) k v)
theorem stm_ne {M : Mem} {t k t' : Nat} {v : Int32} (h : t' ≠ t) : stm M t k v t' = M t' := va_up_ne _ _ h
theorem stm_eq {M : Mem} {t k : Nat} {v : Int32} : stm M t k v t = upd (M t) k v := va_up_self _ _ _
theorem stm_self {M : Mem} {t k : Nat} {v : Int32} : stm M t k v t k = v := by rw [stm_eq]; exact pk_us
theorem stm_off {M : Mem} {t k k' : Nat} {v : Int32} (h : k' ≠ k) : stm M t k v t k' = M t k' := by rw [stm_eq]; exact pk_un h
theorem obj_at {D : va_G} {κ : ClassId × ClassId × ClassId} {ad : Nat → Nat} {M : Mem} {t c : Nat} {H : Heap} (hW : Wd D κ ad M H) (hk : kd t = c) (hc : c < 8) : t < 96 ∧ t_OB (ad t) (D.1 c) (nfn c) (D.2 c) H (fun k => cv ad (fvA M c t k)) := by
  have ht : t < 96 := kd_lt (by omega)
  have h := hW.1 t ht
  unfold cellAt at h
  rw [if_neg (by omega), if_neg (by omega), if_neg (by omega), hk] at h
  exact ⟨ht, h⟩
theorem cellAt.kept {D : va_G} {κ : ClassId × ClassId × ClassId} {ad : Nat → Nat} {M M' : Mem} {t : Nat} {H H1 : Heap} (h : cellAt D κ ad M t H) (hq : H1[ad t]? = H[ad t]?) (hM : M' t = M t) : cellAt D κ ad M' t H1 := by
  unfold cellAt at h ⊢
  split
  · next e => rw [if_pos e] at h; rw [hq, hM]; exact h
  · next e =>
    rw [if_neg e] at h
    split
    · next e2 => rw [if_pos e2] at h; rw [hq]; exact h
    · next e2 =>
      rw [if_neg e2] at h
      split
      · next e3 => rw [if_pos e3] at h; rw [hq]; exact h
      · next e3 =>
        rw [if_neg e3] at h
        have h2 := h.kept hq
        have e : (fun k => cv ad (fvA M' (kd t) t k)) = (fun k => cv ad (fvA M (kd t) t k)) := by
          funext k
          unfold fvA
          rw [hM]
        rw [e]
        exact h2
/-- one cell is written: the memory behind it -/
theorem Wd.put {D : va_G} {κ : ClassId × ClassId × ClassId} {ad : Nat → Nat} {M : Mem} {t k : Nat} {v : Int32} {H H1 : Heap} (hW : Wd D κ ad M H) (hinj : ∀ i j, i < 96 → j < 96 → ad i = ad j → i = j) (ht : t < 96) (hn : cellAt D κ ad (stm M t k v) t H1) (ho : ∀ q, q ≠ ad t → H1[q]? = H[q]?) : Wd D κ ad (stm M t k v) H1 := by
  refine ⟨fun t' h' => ?_, fun j hj => by rw [stm_ne (by omega)]; exact hW.2.1 j hj, fun j hj => by rw [stm_ne (by omega)]; exact hW.2.2 j hj⟩
  by_cases e : t' = t
  · subst e; exact hn
  · exact (hW.1 t' h').kept (ho _ (fun q => e (hinj _ _ h' ht q))) (stm_ne e)
section GF
variable {q : MI} {pc : Nat} {ls : List (Option Value)} {st : List Value} {M : Mem} {Post : Option Value → Mem → Prop}
theorem g_getfield {index c k t : Nat} (hd : decode q.cc pc = .ok (.getfield index, 3)) (hl : Cond.fieldLink q.y.cls index (Tn c k).1 (Tn c k).2.1 (Tn c k).2.2.1 ∈ TB) (hc : c < 8) (hkn : k < nfn c) (ht : kd t = c) (kk : G q (pc + 3) ls (fvA M c t k :: st) M Post) : G q pc ls (.ref t :: st) M Post := by
  intro D κ ad p l e s m args below meth cd H locs la C hW hS hla
  obtain ⟨h96, cell, q1, q2, q3, q4⟩ := obj_at hW ht hc
  obtain ⟨hSl, hfc, kC, hkC, hkind⟩ := C.2.2.2.2.2.2.2.1.1 c _ (cls_at hc)
  obtain ⟨cf, kf, fi, f, hi, hsl⟩ := hSl k hkn
  have hts : ∀ w ∈ TB, w.before args s = true := fun w h => C.2.2.2.2.2.1 w (List.mem_cons_of_mem _ h)
  refine W.getf C.1 C.2.1 C.2.2.2.2.1 (hts _ hl) hi (u_facts hfc hkC (u_lays hts (lays_in hc) hkn) hi).1 q1 (by rw [q3]; exact fun h => by cases h) (v := cv ad (fvA M c t k)) ?_ rfl rfl hd (kk D κ ad p l e s m args below meth cd H locs la C hW hS hla)
  rw [hsl, q4 k hkn]
/-- any plain field: its value in the picture is v then -/
theorem g_putfield {index c k t : Nat} {v : Value} {x : Int32} (hd : decode q.cc pc = .ok (.putfield index, 3)) (hl : Cond.fieldLink q.y.cls index (Tn c k).1 (Tn c k).2.1 (Tn c k).2.2.1 ∈ TB) (hc : c < 8) (hkn : k < nfn c) (hfin : (Tn c k).2.2.2 = false) (ht : kd t = c) (hx : fvA (stm M t k x) c t k = v) (hnar : ∀ ad, narrow (tyn c k) (cv ad v) = cv ad v) (hfit : ∀ ad, fits (tyn c k) (cv ad v) = true) (kk : G q (pc + 3) ls st (stm M t k x) Post) : G q pc ls (v :: .ref t :: st) M Post := by
  intro D κ ad p l e s m args below meth cd H locs la C hW hS hla
  obtain ⟨h96, cell, q1, q2, q3, q4⟩ := obj_at hW ht hc
  have hKx := C.2.2.2.2.2.2.2
  have hts : ∀ w ∈ TB, w.before args s = true := fun w h => C.2.2.2.2.2.1 w (List.mem_cons_of_mem _ h)
  have hap := va_apart (own := q.y.cls) hts (lays_in hc) (tyn c) (tyn_ok hc) (nmn_ok hc) hKx.1 (cls_at hc)
  obtain ⟨hSl, hfc, kC, hkC, hkind⟩ := hKx.1.1 c _ (cls_at hc)
  obtain ⟨cf, kf, fi, f, hi, hsl⟩ := hSl k hkn
  have hlay := hts _ (lays_in hc _ (u_in_lay hkn))
  unfold u_lay at hlay
  rw [if_neg (by rw [hfin]; decide)] at hlay
  have hst := (u_facts hfc hkC (u_lays hts (lays_in hc) hkn) hi).1
  have h6 := u_store hfc hkC hkind hlay hi (tyn_ok hc k hkn) (hnar ad) (hfit ad)
  refine W.putK C.1 C.2.1 (f := f) ⟨C.2.2.2.2.1, hts _ hl, ⟨_, _, _, hi⟩, hst⟩ (by rw [q2]; exact h6) q1 q3 (by rw [hsl]; exact k2_hasslot (q4 k hkn)) rfl rfl hd fun H' e1 e2 e3 => ?_
  rw [hsl] at e1 ⊢
  refine kk D κ ad p l e s m args below meth cd H' _ la C (hW.put hKx.2.1 h96 ?_ e3) (hS.put e2 e3 ⟨t, h96, rfl⟩) hla
  unfold cellAt
  rw [if_neg (by omega), if_neg (by omega), if_neg (by omega), ht]
  refine t_OB.to (V := updV (fun k => cv ad (fvA M c t k)) k (cv ad v)) ⟨_, e1, q2, q3, t_set q4 hap hkn (cv ad v)⟩ (fun j _ => ?_)
  by_cases e : j = k
  · subst e
    rw [hx]
    simp [updV]
  · simp only [updV, if_neg e]
    unfold fvA
    rw [stm_off e]
theorem g_iaload {t : Nat} {i : Int32} (hd : decode q.cc pc = .ok (.iaload, 1)) (hin : vp_in i (al t)) (kk : G q (pc + 1) ls (.int (M t i.toNatClampNeg) :: st) M Post) : G q pc ls (.int i :: .ref t :: st) M Post := by
  intro D κ ad p l e s m args below meth cd H locs la C hW hS hla
  have hlt : i.toNatClampNeg < al t := Nat.not_le.mp fun z => hin (Or.inr z)
  have hKx := C.2.2.2.2.2.2.2
  rcases al_tag (t := t) (by omega) with ⟨h96, h8⟩ | h97
  · have hcell := hW.1 t h96
    unfold cellAt at hcell
    rw [if_pos h8] at hcell
    exact W.iald (v := .int (M t i.toNatClampNeg)) C.1 C.2.1 hcell ((hKx.1.2 0 _ rfl).1 (al t) (fun j => .int (M t j))) (fun z => by cases z) (by show ¬ (i < 0 ∨ (arrV _ _ _).slots.size ≤ _); rw [arrV_size]; exact hin) (by rw [arrV_read _ _ hlt]) rfl rfl hd (kk D κ ad p l e s m args below meth cd H locs la C hW hS hla)
  · subst h97
    exact va_ti C.1 C.2.1 hKx.2.2.2.2.2.1 hS hin (by rw [hW.2.2 _ hlt]; rfl) hd (kk D κ ad p l e s m args below meth cd H locs la C hW hS hla)
theorem g_iastore {t : Nat} {i x : Int32} (hd : decode q.cc pc = .ok (.iastore, 1)) (hin : vp_in i (al t)) (h96 : t < 96) (kk : G q (pc + 1) ls st (stm M t i.toNatClampNeg x) Post) : G q pc ls (.int x :: .int i :: .ref t :: st) M Post := by
  intro D κ ad p l e s m args below meth cd H locs la C hW hS hla
  have hlt : i.toNatClampNeg < al t := Nat.not_le.mp fun z => hin (Or.inr z)
  have hKx := C.2.2.2.2.2.2.2
  have h8 : kd t = 8 := by
    rcases al_tag (t := t) (by omega) with h | h
    · exact h.2
    · omega
  have hcell := hW.1 t h96
  unfold cellAt at hcell
  rw [if_pos h8] at hcell
  refine W.iast C.1 C.2.1 hcell ((hKx.1.2 0 _ rfl).1 (al t) (fun j => .int (M t j))) (fun z => by cases z) (by show ¬ (i < 0 ∨ (arrV _ _ _).slots.size ≤ _); rw [arrV_size]; exact hin) rfl rfl hd fun H1 e1 e2 e3 => ?_
  refine kk D κ ad p l e s m args below meth cd H1 _ la C (hW.put hKx.2.1 h96 ?_ e3) (hS.put e2 e3 ⟨t, h96, rfl⟩) hla
  unfold cellAt
  rw [if_pos h8, e1, arrV_store]
  congr 2
  funext j
  rw [stm_eq]
  by_cases hj : j = i.toNatClampNeg
  · subst hj; simp [updV, upd]
  · simp [updV, upd, hj]
theorem g_aaload {t : Nat} {i : Int32} (hd : decode q.cc pc = .ok (.aaload, 1)) (hin : vp_in i (rl t)) (kk : G q (pc + 1) ls (.ref (rb t + i.toNatClampNeg) :: st) M Post) : G q pc ls (.int i :: .ref t :: st) M Post := by
  intro D κ ad p l e s m args below meth cd H locs la C hW hS hla
  have hlt : i.toNatClampNeg < rl t := Nat.not_le.mp fun z => hin (Or.inr z)
  have hKx := C.2.2.2.2.2.2.2
  obtain ⟨h96, h9⟩ := rl_tag (t := t) (by omega)
  have hcell := hW.1 t h96
  unfold cellAt at hcell
  rcases h9 with h9 | h9
  · rw [if_neg (by omega), if_pos h9] at hcell
    exact W.aald (v := .ref (ad (rb t + i.toNatClampNeg))) (ty := .object RX2) C.1 C.2.1 hcell ((hKx.1.2 1 _ rfl).1 (rl t) _) rfl (fun z => by cases z) (by show ¬ (i < 0 ∨ (arrV _ _ _).slots.size ≤ _); rw [arrV_size]; exact hin) (by rw [arrV_read _ _ hlt]) rfl rfl hd (kk D κ ad p l e s m args below meth cd H locs la C hW hS hla)
  · rw [if_neg (by omega), if_neg (by omega), if_pos h9] at hcell
    exact W.aald (v := .ref (ad (rb t + i.toNatClampNeg))) (ty := .array .int) C.1 C.2.1 hcell ((hKx.1.2 2 _ rfl).1 (rl t) _) rfl (fun z => by cases z) (by show ¬ (i < 0 ∨ (arrV _ _ _).slots.size ≤ _); rw [arrV_size]; exact hin) (by rw [arrV_read _ _ hlt]) rfl rfl hd (kk D κ ad p l e s m args below meth cd H locs la C hW hS hla)
theorem g_letters {index : Nat} (hd : decode q.cc pc = .ok (.getstatic index, 3)) (hl : Cond.fieldLink q.y.cls index RX6 "LETTERS" "[C" ∈ TB) (kk : G q (pc + 3) ls (.ref 96 :: st) M Post) : G q pc ls st M Post := by
  intro D κ ad p l e s m args below meth cd H locs la C hW hS hla
  exact va_gets C.1 C.2.1 C.2.2.2.2.2.2.2.2.2.1 hS C.2.2.2.2.1 (C.2.2.2.2.2.1 _ (List.mem_cons_of_mem _ hl)) (fun _ h => h) hd (kk D κ ad p l e s m args below meth cd H locs la C hW hS hla)
theorem g_equal {index : Nat} (hd : decode q.cc pc = .ok (.getstatic index, 3)) (hl : Cond.fieldLink q.y.cls index RX6 "EQUAL_WEIGHTS" "[I" ∈ TB) (kk : G q (pc + 3) ls (.ref 97 :: st) M Post) : G q pc ls st M Post := by
  intro D κ ad p l e s m args below meth cd H locs la C hW hS hla
  exact va_gets C.1 C.2.1 C.2.2.2.2.2.2.2.2.2.2.1 hS C.2.2.2.2.1 (C.2.2.2.2.2.1 _ (List.mem_cons_of_mem _ hl)) (fun _ h => h) hd (kk D κ ad p l e s m args below meth cd H locs la C hW hS hla)
theorem g_caload {i : Int32} (hd : decode q.cc pc = .ok (.caload, 1)) (hin : vp_in i 4) (kk : G q (pc + 1) ls (.int (ltr i.toNatClampNeg) :: st) M Post) : G q pc ls (.int i :: .ref 96 :: st) M Post := by
  intro D κ ad p l e s m args below meth cd H locs la C hW hS hla
  exact va_tc C.1 C.2.1 C.2.2.2.2.2.2.2.2.2.2.2.1 hS hin rfl hd (kk D κ ad p l e s m args below meth cd H locs la C hW hS hla)
end GF
end
section
/-! a method's beginning and end; calls -/
def ls0 (av : List Value) (n : Nat) : List (Option Value) := av.map some ++ List.replicate (n - av.length) none
theorem largs_in (vs : List Value) (h : ∀ v ∈ vs, v.category = 1) : ∀ (i j : Nat) (v : Value), vs[j]? = some v → (i + j, v) ∈ lv_args i vs := by
  induction vs with
  | nil => intro i j v hj; simp at hj
  | cons a l ih =>
    intro i j v hj
    unfold lv_args
    rw [if_neg (by rw [h a List.mem_cons_self]; decide)]
    cases j with
    | zero =>
      simp at hj
      subst hj
      exact List.mem_cons_self
    | succ j =>
      simp at hj
      have := ih (fun v hv => h v (List.mem_cons_of_mem _ hv)) (i + 1) j v hj
      rw [show i + (j + 1) = i + 1 + j by omega]
      exact List.mem_cons_of_mem _ this
theorem lgsl_len (vs : List Value) (h : ∀ v ∈ vs, v.category = 1) : (lg_sl vs).length = vs.length := by
  induction vs with
  | nil => rfl
  | cons a l ih =>
    unfold lg_sl at ih ⊢
    rw [List.flatMap_cons, if_neg (by rw [h a List.mem_cons_self]; decide), List.length_append, ih (fun v hv => h v (List.mem_cons_of_mem _ hv))]
    simp
    omega
/-- A CONTRACT out of a walk from the entry -/
theorem Spec.of {q : MI} {av : List Value} {M : Mem} {Post : Option Value → Mem → Prop} (hy : plainName q.y.cls = true) (hc : ∀ v ∈ av, v.category = 1) (hn : av.length ≤ q.ml) (k : G q 0 (ls0 av q.ml) [] M Post) : Spec q av M Post := by
  intro l D κ ad
  refine Met.ofW (cc := q.cc) (maxL := q.ml) (ret := q.rt) hy rfl ?_
  intro p e s m args below meth c s₁ B hml hv
  obtain ⟨rfl, hW, hK⟩ := hv
  have hts := atoms_spec (ws := q.ws) B.pre
  have hown : s.vm.findClass q.y.cls = some m.cls := findClass_of_methodNamed B.named
  have hc' : ∀ v ∈ av.map (cv ad), v.category = 1 := by
    intro v hv
    obtain ⟨w, hw, rfl⟩ := List.mem_map.mp hv
    rw [cv_cat]
    exact hc w hw
  have hl := lv_entry (av.map (cv ad)) (n := q.ml) (by rw [lgsl_len _ hc', List.length_map]; exact hn)
  rw [lg_entry_eq]
  refine k D κ ad p l e s m _ below meth c s.heap [] _ ⟨B.exec, B.bytes, B.returns, hml, hown, hts, B.notSynchronized, hK⟩ hW va_S.rf (lvs.of hl (fun j v hj => ?_))
  unfold ls0 at hj
  rw [List.getElem?_append] at hj
  split at hj
  · have h2 : av[j]? = some v := by
      rw [List.getElem?_map] at hj
      cases h3 : av[j]? with
      | none => rw [h3] at hj; cases hj
      | some w => rw [h3] at hj; cases hj; rfl
    have := largs_in (av.map (cv ad)) hc' 0 j (cv ad v) (by rw [List.getElem?_map, h2]; rfl)
    rwa [Nat.zero_add] at this
  · exfalso
    rw [List.getElem?_replicate] at hj
    split at hj <;> cases hj
theorem Spec.weaken {q : MI} {av : List Value} {M : Mem} {Post Post' : Option Value → Mem → Prop} (h : Spec q av M Post) (hp : ∀ r M', Post r M' → Post' r M') : Spec q av M Post' := by
  intro l D κ ad p e ha hc hk s m args below hf happ hpre hK
  obtain ⟨k, o, h1, h2, h3, hq, hL⟩ := h l D κ ad p e ha hc hk s m args below hf happ hpre hK
  obtain ⟨⟨r, M', e1, e2, e3⟩, e4⟩ := hq
  exact ⟨k, o, h1, h2, h3, ⟨⟨r, M', e1, hp r M' e2, e3⟩, e4⟩, hL⟩
theorem Kx.calling {D : va_G} {κ : ClassId × ClassId × ClassId} {ad : Nat → Nat} {U : State} (g : JFrame) (mk : MethodId) (a : Array Value) (h : Kx D κ ad U) : Kx D κ ad (U.calling g mk a) :=
  ⟨va_K.moved (u := U) (U := U.calling g mk a) (Vm.Alike.refl U.vm) h.1, h.2.1, va_Z.moved (u := U) (U := U.calling g mk a) (Vm.Alike.refl U.vm) h.2.2.1, va_Z.moved (u := U) (U := U.calling g mk a) (Vm.Alike.refl U.vm) h.2.2.2.1, va_T.moved (u := U) (U := U.calling g mk a) (Vm.Alike.refl U.vm) h.2.2.2.2.1, va_T.moved (u := U) (U := U.calling g mk a) (Vm.Alike.refl U.vm) h.2.2.2.2.2.1, va_Nw.same rfl rfl h.2.2.2.2.2.2.1, va_Nw.same rfl rfl h.2.2.2.2.2.2.2.1, va_Nw.same rfl rfl h.2.2.2.2.2.2.2.2⟩
section GC
variable {q : MI} {pc : Nat} {ls : List (Option Value)} {st : List Value} {M : Mem} {Post : Option Value → Mem → Prop}
theorem g_ireturn {x : Int32} {ty : FieldType} (hd : decode q.cc pc = .ok (.ireturn, 1)) (hr : q.rt = some ty) (hn : narrow ty (.int x) = .int x) (hp : Post (some (.int x)) M) : G q pc ls [.int x] M Post := by
  intro D κ ad p l e s m args below meth c H locs la C hW hS hl
  exact W.zret (ty := ty) C.1 C.2.1 (C.2.2.1.trans hr) hn (fun t ht hw => ⟨⟨some (.int x), M, rfl, hp, by rw [ht]; exact hW⟩, hS.F ht⟩) hS.2.2 hd C.2.2.2.2.2.2.1
theorem g_return (hd : decode q.cc pc = .ok (.return_, 1)) (hr : q.rt = none) (hp : Post none M) : G q pc ls [] M Post := by
  intro D κ ad p l e s m args below meth c H locs la C hW hS hl
  exact W.vret C.1 C.2.1 (C.2.2.1.trans hr) (fun t ht hw => ⟨⟨none, M, rfl, hp, by rw [ht]; exact hW⟩, hS.F ht⟩) hS.2.2 hd C.2.2.2.2.2.2.1
/-- behind a call: the memory and what it answered -/
theorem call_on {D : va_G} {κ : ClassId × ClassId × ClassId} {ad : Nat → Nat} {p : Program} {l : Launch} {e : Env} {R : Room} {s : State} {m : MethodId} {args a : Array Value} {below : List Frame} {meth : Method} {c : Code} {H : Heap} {locs : List Loc} {Q : State → Prop} {g : JFrame} {rest : List Value} {P' : Option Value → Mem → Prop}
    (hr : CallRun p l e R s m args below meth c H locs 0 0 0 0 g rest (Qx D κ ad P' a) (ownA ad)) (hS : va_S (ownA ad) s.heap H locs)
    (kk : ∀ (r : Option Value) (M' : Mem) (H1 : Heap) (locs1 : List Loc), P' r M' → Wd D κ ad M' H1 → va_S (ownA ad) s.heap H1 locs1 → W p l e R s m args below meth c H1 locs1 0 0 Q { g with pc := g.pc + 3, stack := (r.map (cv ad)).toList ++ rest }) : W p l e R s m args below meth c H locs 0 0 Q g := by
  intro T hT X
  obtain ⟨v, st₀, t, T', L, h0, X', hL, e1, ⟨⟨r, M', hv, hp, hW⟩, hF⟩, sg⟩ := hr T hT X
  cases hv
  obtain ⟨t2, a1, b1⟩ := kk r M' t.heap (locs ++ L) hp hW ⟨Nat.le_trans hS.1 (by rw [← h0]; exact hF.1), fun x h1 h2 => by rw [hF.2 x (by rw [h0]; exact Nat.lt_of_lt_of_le h1 hS.1) h2, h0]; exact hS.2.1 x h1 h2, fun x hx => (List.mem_append.mp hx).elim (hS.2.2 x) (hL x)⟩ T' e1 X'
  exact ⟨t2, sg t2 a1, b1⟩
theorem pre_of {D : va_G} {κ : ClassId × ClassId × ClassId} {ad : Nat → Nat} {s : State} {H : Heap} {locs : List Loc} {av : List Value} (hW : Wd D κ ad M H) (hS : va_S (ownA ad) s.heap H locs) (hK : Kx D κ ad s) :
    PreS s H (va_Pc (av.map (cv ad)) (fun U => Wd D κ ad M U.heap ∧ Kx D κ ad U)) (av.map (cv ad)) :=
  ⟨fun a U g mk h => ⟨h.1, h.2.1, h.2.2.calling g mk a⟩, fun U hU hw => ⟨rfl, by rw [hU]; exact hW, hK.moved hw (fun a h1 h2 => by rw [hU]; exact hS.2.1 a h1 h2)⟩⟩
/-- what a caller must look up of its callee, once for the pair -/
def okV (q q' : MI) (index n : Nat) : Prop := Cond.methodLink q.y.cls index q'.y ∈ TB ∧ Cond.instanceMethod q'.y ∈ TB ∧ Cond.selects q'.y.cls q'.y q'.y ∈ TB ∧ Cond.initialized q'.y.cls ∈ TB ∧ Cond.code q'.y q'.cc q'.ml q'.rt ∈ TB ∧
  (q'.y.cls ≠ "java/lang/invoke/MethodHandle" ∧ q'.y.cls ≠ "java/lang/invoke/VarHandle" ∧ (parseMethodDescriptor q'.y.desc).map (fun d => d.parameters.length) = some n) ∧ q'.rm.frames + 1 ≤ q.rm.frames ∧ 8 + (q'.ml + 11) + q'.rm.locals ≤ q.rm.locals
def okS (q q' : MI) (index n : Nat) : Prop := Cond.methodLink q.y.cls index q'.y ∈ TB ∧ Cond.static q'.y ∈ TB ∧ Cond.initialized q'.y.cls ∈ TB ∧ Cond.code q'.y q'.cc q'.ml q'.rt ∈ TB ∧
  (q'.y.cls ≠ "java/lang/invoke/MethodHandle" ∧ q'.y.cls ≠ "java/lang/invoke/VarHandle" ∧ (parseMethodDescriptor q'.y.desc).map (fun d => d.parameters.length) = some n) ∧ q'.rm.frames + 1 ≤ q.rm.frames ∧ 8 + (q'.ml + 11) + q'.rm.locals ≤ q.rm.locals
theorem ws_good {q q' : MI} (h : Cond.code q'.y q'.cc q'.ml q'.rt ∈ TB) : GoodIn q.ws q'.ws := by
  intro w hw
  have hb : w ∈ TB := by
    rcases List.mem_cons.mp hw with rfl | hw
    · exact h
    · exact hw
  exact ⟨List.mem_cons_of_mem _ hb, good_of_word (List.mem_filter.mp hb).2⟩
theorem callB {q q' : MI} {index n : Nat} {s : State} {args : Array Value} (hts : ∀ w ∈ q.ws, w.before args s = true) (hcode : Cond.code q'.y q'.cc q'.ml q'.rt ∈ TB) (hini : Cond.initialized q'.y.cls ∈ TB) (hl : Cond.methodLink q.y.cls index q'.y ∈ TB) (hd : q'.y.cls ≠ "java/lang/invoke/MethodHandle" ∧ q'.y.cls ≠ "java/lang/invoke/VarHandle" ∧ (parseMethodDescriptor q'.y.desc).map (fun d => d.parameters.length) = some n) (hR : q'.rm.frames + 1 ≤ q.rm.frames ∧ 8 + (q'.ml + 11) + q'.rm.locals ≤ q.rm.locals) : CallB q.rm s args q.y.cls index q'.y q'.cc q'.ml q'.rt q'.ws q'.rm 0 0 n :=
  callB_of n hts (ws_good hcode) rfl rfl rfl (hts _ (List.mem_cons_of_mem _ hini)) (hts _ (List.mem_cons_of_mem _ hl)) hd hR
theorem g_callV {q' : MI} {index n t c : Nat} {As : List Value} {P' : Option Value → Mem → Prop} (hS' : Spec q' (.ref t :: As) M P') (ok : okV q q' index n) (hd : decode q.cc pc = .ok (.invokevirtual index, 3)) (hn : As.length = n) (hk : kd t = c) (hc : c < 8) (hcl : Rn c = q'.y.cls) (hr : (st.map fun v => v.category).sum ≤ 8)
    (kk : ∀ (r : Option Value) (M' : Mem), P' r M' → G q (pc + 3) ls (r.toList ++ st) M' Post) {st' : List Value} (hst : st' = As.reverse ++ .ref t :: st) : G q pc ls st' M Post := by
  intro D κ ad p l e s m args below meth cd H locs la C hW hS hl
  obtain ⟨hx, hb, hrt, hml, hown, hts, hlk, hK⟩ := id C
  obtain ⟨o1, o2, o3, o4, o5, o6, o7⟩ := ok
  obtain ⟨h96, cell, q1, q2, q3, q4⟩ := obj_at hW hk hc
  obtain ⟨hSl, hfc, kC, hkC, hkind⟩ := hK.1.1 c _ (cls_at hc)
  have hpre := pre_of (av := .ref t :: As) hW hS hK
  have hrun := W.runV (p := p) (e := e) (below := below) (meth := meth) (H := H) (locs := locs) (cells := 0) (slots := 0) (As := As.map (cv ad)) (rest := st.map (cv ad)) (g := F0 m pc la (st'.map (cv ad))) (b := ad t) ⟨hx, hb, hml, hown, hts⟩ (hS' l D κ ad) (C := q'.y.cls) (n := n) ⟨callB hts o5 o4 o1 o6 o7, hts _ (List.mem_cons_of_mem _ o2), hts _ (List.mem_cons_of_mem _ o3)⟩
    ⟨hpre.1, ⟨cell, q1, by rw [q3]; rfl, by rw [q2, ← hcl]; exact hfc⟩, fun U hU hw => hpre.2 U hU hw⟩ rfl (by rw [List.length_map]; exact hn) hl.1 (by rw [hst]; simp [cv]) (lv_room (by rw [List.map_map]; rw [show ((fun v : Value => v.category) ∘ cv ad) = (fun v : Value => v.category) from funext fun v => cv_cat ad v]; exact hr)) hd ⟨Nat.le_refl 0, Nat.le_refl 0⟩
  refine call_on hrun hS (fun r M' H1 locs1 hp hW1 hS1 => ?_)
  have := kk r M' hp D κ ad p l e s m args below meth cd H1 locs1 la C hW1 hS1 hl
  have e : (r.toList ++ st).map (cv ad) = (r.map (cv ad)).toList ++ st.map (cv ad) := by cases r <;> simp
  rw [e] at this
  exact this
theorem g_callS {q' : MI} {index n : Nat} {As : List Value} {P' : Option Value → Mem → Prop} (hS' : Spec q' As M P') (ok : okS q q' index n) (hd : decode q.cc pc = .ok (.invokestatic index, 3)) (hn : As.length = n) (hr : (st.map fun v => v.category).sum ≤ 8)
    (kk : ∀ (r : Option Value) (M' : Mem), P' r M' → G q (pc + 3) ls (r.toList ++ st) M' Post) {st' : List Value} (hst : st' = As.reverse ++ st) : G q pc ls st' M Post := by
  intro D κ ad p l e s m args below meth cd H locs la C hW hS hl
  obtain ⟨hx, hb, hrt, hml, hown, hts, hlk, hK⟩ := id C
  obtain ⟨o1, o2, o4, o5, o6, o7⟩ := ok
  have hpre := pre_of (av := As) hW hS hK
  have hrun := W.runS (p := p) (e := e) (below := below) (meth := meth) (H := H) (locs := locs) (cells := 0) (slots := 0) (As := As.map (cv ad)) (rest := st.map (cv ad)) (g := F0 m pc la (st'.map (cv ad))) ⟨hx, hb, hml, hown, hts⟩ (hS' l D κ ad) (n := n) ⟨callB hts o5 o4 o1 o6 o7, hts _ (List.mem_cons_of_mem _ o2)⟩
    hpre rfl (by rw [List.length_map]; exact hn) hl.1 (by rw [hst]; simp) (lv_room (by rw [List.map_map]; rw [show ((fun v : Value => v.category) ∘ cv ad) = (fun v : Value => v.category) from funext fun v => cv_cat ad v]; exact hr)) hd ⟨Nat.le_refl 0, Nat.le_refl 0⟩
  refine call_on hrun hS (fun r M' H1 locs1 hp hW1 hS1 => ?_)
  have := kk r M' hp D κ ad p l e s m args below meth cd H1 locs1 la C hW1 hS1 hl
  have e : (r.toList ++ st).map (cv ad) = (r.map (cv ad)).toList ++ st.map (cv ad) := by cases r <;> simp
  rw [e] at this
  exact this
/-- holds of a nest mate -/
theorem g_callN {q' : MI} {index n : Nat} {As : List Value} {P' : Option Value → Mem → Prop} (hS' : Spec q' As M P') (hy : q'.y = yX6_holds) (hlk : (q.y.cls = RX4 ∧ index = 28) ∨ (q.y.cls = RX3 ∧ index = 28) ∨ (q.y.cls = RX5 ∧ index = 83)) (ok : Cond.static q'.y ∈ TB ∧ Cond.initialized q'.y.cls ∈ TB ∧ Cond.code q'.y q'.cc q'.ml q'.rt ∈ TB ∧ (q'.y.cls ≠ "java/lang/invoke/MethodHandle" ∧ q'.y.cls ≠ "java/lang/invoke/VarHandle" ∧ (parseMethodDescriptor q'.y.desc).map (fun d => d.parameters.length) = some n) ∧ q'.rm.frames + 1 ≤ q.rm.frames ∧ 8 + (q'.ml + 11) + q'.rm.locals ≤ q.rm.locals) (hd : decode q.cc pc = .ok (.invokestatic index, 3)) (hn : As.length = n) (hr : (st.map fun v => v.category).sum ≤ 8)
    (kk : ∀ (r : Option Value) (M' : Mem), P' r M' → G q (pc + 3) ls (r.toList ++ st) M' Post) {st' : List Value} (hst : st' = As.reverse ++ st) : G q pc ls st' M Post := by
  intro D κ ad p l e s m args below meth cd H locs la C hW hS hl
  obtain ⟨hx, hb, hrt, hml, hown, hts, hlk0, hK⟩ := id C
  obtain ⟨o2, o4, o5, o6, o7⟩ := ok
  have hpre := pre_of (av := As) hW hS hK
  have hN : va_Nw (.methodLinkNest q.y.cls index q'.y RX6) s := by
    rw [hy]
    rcases hlk with ⟨e1, e2⟩ | ⟨e1, e2⟩ | ⟨e1, e2⟩ <;> rw [e1, e2]
    · exact hK.2.2.2.2.2.2.1
    · exact hK.2.2.2.2.2.2.2.1
    · exact hK.2.2.2.2.2.2.2.2
  have hrun := va_runSN (p := p) (e := e) (below := below) (meth := meth) (H := H) (locs := locs) (cells := 0) (slots := 0) (As := As.map (cv ad)) (rest := st.map (cv ad)) (g := F0 m pc la (st'.map (cv ad))) ⟨hx, hb, hml, hown, hts⟩ (hS' l D κ ad) (n := n) (host := RX6) ⟨va_cnB n hts (ws_good o5) rfl rfl rfl hN (hts _ (List.mem_cons_of_mem _ o4)) o6 o7, hts _ (List.mem_cons_of_mem _ o2), trivial⟩
    hpre rfl (by rw [List.length_map]; exact hn) hl.1 (by rw [hst]; simp) (lv_room (by rw [List.map_map]; rw [show ((fun v : Value => v.category) ∘ cv ad) = (fun v : Value => v.category) from funext fun v => cv_cat ad v]; exact hr)) hd ⟨Nat.le_refl 0, Nat.le_refl 0⟩
  refine call_on hrun.run hS (fun r M' H1 locs1 hp hW1 hS1 => ?_)
  have := kk r M' hp D κ ad p l e s m args below meth cd H1 locs1 la C hW1 hS1 hl
  have e : (r.toList ++ st).map (cv ad) = (r.map (cv ad)).toList ++ st.map (cv ad) := by cases r <;> simp
  rw [e] at this
  exact this
end GC
end
section
/-! the JDK's members that the class calls: Math.min, Math.max, System.arraycopy -/
section GJ
variable {q : MI} {pc : Nat} {ls : List (Option Value)} {st : List Value} {M : Mem} {Post : Option Value → Mem → Prop}
theorem cat_sum (ad : Nat → Nat) (st : List Value) : ((st.map (cv ad)).map fun v => v.category).sum = (st.map fun v => v.category).sum := by
  rw [List.map_map, show ((fun v : Value => v.category) ∘ cv ad) = (fun v : Value => v.category) from funext fun v => cv_cat ad v]
theorem g_mmax {index : Nat} {x y : Int32} (hl : Cond.methodLink q.y.cls index Lib.Math.max.name ∈ TB) (hs : Cond.static Lib.Math.max.name ∈ TB) (hi : Cond.initialized "java/lang/Math" ∈ TB) (hc : Cond.code Lib.Math.max.name Lib.Math.max.code 2 (some .int) ∈ TB) (hf : 1 ≤ q.rm.frames) (hr : (st.map fun v => v.category).sum + 13 ≤ q.rm.locals) (hd : decode q.cc pc = .ok (.invokestatic index, 3))
    (kk : G q (pc + 3) ls (.int (if x < y then y else x) :: st) M Post) : G q pc ls (.int y :: .int x :: st) M Post := by
  intro D κ ad p l e s m args below meth cd H locs la C hW hS hla
  have hts : ∀ w ∈ TB, w.before args s = true := fun w h => C.2.2.2.2.2.1 w (List.mem_cons_of_mem _ h)
  exact va_mmax C.1 C.2.1 (C.2.2.2.1.trans hla.1.symm) C.2.2.2.2.1 (hts _ hl) (hts _ hs) (hts _ hi) (hts _ hc) hf (by rw [cat_sum]; exact hr) (Nat.le_refl 0) (Nat.le_refl 0) hd (kk D κ ad p l e s m args below meth cd H locs la C hW hS hla)
theorem g_mmin {index : Nat} {x y : Int32} (hl : Cond.methodLink q.y.cls index Lib.Math.min.name ∈ TB) (hs : Cond.static Lib.Math.min.name ∈ TB) (hi : Cond.initialized "java/lang/Math" ∈ TB) (hc : Cond.code Lib.Math.min.name Lib.Math.min.code 2 (some .int) ∈ TB) (hf : 1 ≤ q.rm.frames) (hr : (st.map fun v => v.category).sum + 13 ≤ q.rm.locals) (hd : decode q.cc pc = .ok (.invokestatic index, 3))
    (kk : G q (pc + 3) ls (.int (if y < x then y else x) :: st) M Post) : G q pc ls (.int y :: .int x :: st) M Post := by
  intro D κ ad p l e s m args below meth cd H locs la C hW hS hla
  have hts : ∀ w ∈ TB, w.before args s = true := fun w h => C.2.2.2.2.2.1 w (List.mem_cons_of_mem _ h)
  exact va_mmin C.1 C.2.1 (C.2.2.2.1.trans hla.1.symm) C.2.2.2.2.1 (hts _ hl) (hts _ hs) (hts _ hi) (hts _ hc) hf (by rw [cat_sum]; exact hr) (Nat.le_refl 0) (Nat.le_refl 0) hd (kk D κ ad p l e s m args below meth cd H locs la C hW hS hla)
/-- an array's content is replaced whole -/
def stA (M : Mem) (t : Nat) (f : Nat → Int32) : Mem := va_up M t f
theorem stA_ne {M : Mem} {t t' : Nat} {f : Nat → Int32} (h : t' ≠ t) : stA M t f t' = M t' := va_up_ne _ _ h
theorem stA_eq {M : Mem} {t : Nat} {f : Nat → Int32} : stA M t f t = f := va_up_self _ _ _
theorem Wd.putA {D : va_G} {κ : ClassId × ClassId × ClassId} {ad : Nat → Nat} {M : Mem} {t : Nat} {f : Nat → Int32} {H H1 : Heap} (hW : Wd D κ ad M H) (hinj : ∀ i j, i < 96 → j < 96 → ad i = ad j → i = j) (ht : t < 96) (hn : cellAt D κ ad (stA M t f) t H1) (ho : ∀ q, q ≠ ad t → H1[q]? = H[q]?) : Wd D κ ad (stA M t f) H1 := by
  refine ⟨fun t' h' => ?_, fun j hj => by rw [stA_ne (by omega)]; exact hW.2.1 j hj, fun j hj => by rw [stA_ne (by omega)]; exact hW.2.2 j hj⟩
  by_cases e : t' = t
  · subst e; exact hn
  · exact (hW.1 t' h').kept (ho _ (fun q => e (hinj _ _ h' ht q))) (stA_ne e)
theorem g_arraycopy {index t0 t1 : Nat} {sp dp n : Int32} (hl : Cond.methodLink q.y.cls index arraycopyName ∈ TB) (hnat : Cond.native arraycopyName ∈ TB) (hs : Cond.static arraycopyName ∈ TB) (hi : Cond.initialized "java/lang/System" ∈ TB) (hf : 1 ≤ q.rm.frames) (hr : (st.map fun v => v.category).sum + (nativeFrameWords "java/lang/System" "arraycopy" 5 + 11) ≤ q.rm.locals) (hd : decode q.cc pc = .ok (.invokestatic index, 3))
    (h0 : t0 < 96) (h1 : t1 < 96) (k0 : kd t0 = 8) (k1 : kd t1 = 8) (g1 : ¬ sp < 0) (g2 : ¬ dp < 0) (g3 : ¬ n < 0) (g4 : sp.toNatClampNeg + n.toNatClampNeg ≤ al t0) (g5 : dp.toNatClampNeg + n.toNatClampNeg ≤ al t1)
    (kk : G q (pc + 3) ls st (stA M t1 (va_cpy (M t0) (M t1) sp.toNatClampNeg dp.toNatClampNeg n.toNatClampNeg)) Post) : G q pc ls (.int n :: .int dp :: .ref t1 :: .int sp :: .ref t0 :: st) M Post := by
  intro D κ ad p l e s m args below meth cd H locs la C hW hS hla
  have hts : ∀ w ∈ TB, w.before args s = true := fun w h => C.2.2.2.2.2.1 w (List.mem_cons_of_mem _ h)
  have hK := C.2.2.2.2.2.2.2
  have hc0 := hW.1 t0 h0
  unfold cellAt at hc0
  rw [if_pos k0] at hc0
  have hc1 := hW.1 t1 h1
  unfold cellAt at hc1
  rw [if_pos k1] at hc1
  have nn : ∀ z : Int32, ¬ z < 0 → z.toInt = (z.toNatClampNeg : Int) := by
    intro z hz
    have hz0 : (0 : Int) ≤ z.toInt := by
      have := Int32.not_lt.mp hz
      simpa using Int32.le_iff_toInt_le.mp this
    show z.toInt = ((z.toInt.toNat : Nat) : Int)
    omega
  intro T hT X
  obtain ⟨-, ka, hka, cma, hkka⟩ := (hK.1.2 0 _ rfl).1 (al t0) (fun j => .int (M t0 j))
  obtain ⟨-, kb, hkb, cmb, hkkb⟩ := (hK.1.2 0 _ rfl).1 (al t1) (fun j => .int (M t1 j))
  obtain ⟨vm', X', step⟩ := X.arraycopy C.1 C.2.2.2.2.1 (hts _ hl) (hts _ hnat) (hts _ hs) (hts _ hi) (src := ad t0) (dst := ad t1) (cs := arrV κ.1 (al t0) (fun j => .int (M t0 j))) (cd := arrV κ.1 (al t1) (fun j => .int (M t1 j))) (srcPos := sp) (destPos := dp) (n := n) (by rw [hT]; exact hc0) (by rw [hT]; exact hc1)
    (fun _ h => by cases h) (fun _ h => by cases h) (fun h => by cases h) (fun h => by cases h) hka hkb hkka hkkb (by simp [refKind]) g1 g2 g3
    (by rw [nn sp g1, nn n g3, arrV_size]; omega)
    (by rw [nn dp g2, nn n g3, arrV_size]; omega)
    (fun vm₁ _ i hi => by
      have e : (arrV κ.1 (al t0) (fun j => Value.int (M t0 j))).slots.getD (sp.toNatClampNeg + i) .null = .int (M t0 (sp.toNatClampNeg + i)) := by
        rw [Array.getD_eq_getD_getElem?, arrV_read _ _ (by omega)]
        rfl
      refine ⟨?_, ?_⟩
      · rw [e]
        rfl
      · rw [e]
        exact trivial)
    (g := F0 m pc la (.int n :: .int dp :: .ref (ad t1) :: .int sp :: .ref (ad t0) :: st.map (cv ad))) rfl (by rw [C.2.2.2.1]; exact hla.1) (rest := st.map (cv ad)) rfl (by rw [C.2.1]; exact hd) hf (by show 2 * 0 + _ + _ ≤ _; rw [cat_sum]; omega)
  have e1 : copied (arrV κ.1 (al t0) (fun j => .int (M t0 j))) (arrV κ.1 (al t1) (fun j => .int (M t1 j))) sp dp n = arrV κ.1 (al t1) (fun j => .int (va_cpy (M t0) (M t1) sp.toNatClampNeg dp.toNatClampNeg n.toNatClampNeg j)) := va_copied (fun z => .int z) κ.1 κ.1 (M t0) (M t1) g4
  rw [e1] at X' step
  have hlt : ad t1 < H.size := (Array.getElem?_eq_some_iff.mp hc1).1
  have hheap : ((T.setVm vm').setCell (ad t1) (arrV κ.1 (al t1) (fun j => .int (va_cpy (M t0) (M t1) sp.toNatClampNeg dp.toNatClampNeg n.toNatClampNeg j)))).heap = H.setIfInBounds (ad t1) (arrV κ.1 (al t1) (fun j => .int (va_cpy (M t0) (M t1) sp.toNatClampNeg dp.toNatClampNeg n.toNatClampNeg j))) := by rw [← hT]; rfl
  have oq : ∀ z : Nat, z ≠ ad t1 → (H.setIfInBounds (ad t1) (arrV κ.1 (al t1) (fun j => .int (va_cpy (M t0) (M t1) sp.toNatClampNeg dp.toNatClampNeg n.toNatClampNeg j))))[z]? = H[z]? := fun z hz => by simp [Array.getElem?_setIfInBounds, Ne.symm hz]
  obtain ⟨t, a1, b1⟩ := kk D κ ad p l e s m args below meth cd _ _ la C (hW.putA hK.2.1 h1 (by
      unfold cellAt
      rw [if_pos k1, stA_eq]
      simp [Array.getElem?_setIfInBounds, hlt]) oq) ⟨by simp; exact hS.1, fun z z1 z2 => by
      rw [oq z (fun e => z2 ⟨t1, h1, e⟩)]
      exact hS.2.1 z z1 z2, fun z hz => by
      rcases List.mem_append.mp hz with h | h
      · exact hS.2.2 z h
      · obtain ⟨w, -, hw⟩ := List.mem_map.mp h
        rw [← hw]
        exact ⟨t1, h1, rfl⟩⟩ hla _ hheap X'
  exact ⟨t, step t a1, b1⟩
end GJ
end
section
/-! THE METHODS: name, code, locals, answer, room below; what each call looks up -/
abbrev mX1_unite : MI := (yX1_unite, cX1_unite, 7, (some .int), 3, 74)
abbrev mX1_fill : MI := (yX1_fill, cX1_fill, 5, none, 2, 50)
abbrev mX1_walk : MI := (yX1_walk, cX1_walk, 4, none, 2, 50)
abbrev mX1_look : MI := (yX1_look, cX1_look, 5, none, 1, 26)
abbrev mX1_choose : MI := (yX1_choose, cX1_choose, 4, (some .int), 1, 23)
abbrev mX1_worthAfter : MI := (yX1_worthAfter, cX1_worthAfter, 4, (some .int), 0, 0)
abbrev mX1_match : MI := (yX1_match, cX1_match, 7, (some .int), 0, 0)
abbrev mX1_place : MI := (yX1_place, cX1_place, 3, (some .int), 0, 0)
abbrev mX2_copy : MI := (yX2_copy, cX2_copy, 2, none, 1, 26)
abbrev mX2_sameLettersAs : MI := (yX2_sameLettersAs, cX2_sameLettersAs, 4, (some .int), 0, 0)
abbrev mX2_tuplesSharedWith : MI := (yX2_tuplesSharedWith, cX2_tuplesSharedWith, 5, (some .int), 1, 24)
abbrev mX2_timesOfTuple : MI := (yX2_timesOfTuple, cX2_timesOfTuple, 5, (some .int), 0, 0)
abbrev mX2_spread : MI := (yX2_spread, cX2_spread, 6, none, 0, 0)
abbrev mX2_scoreBeside : MI := (yX2_scoreBeside, cX2_scoreBeside, 9, (some .int), 0, 0)
abbrev mX3_copyWithout : MI := (yX3_copyWithout, cX3_copyWithout, 6, none, 2, 44)
abbrev mX3_hasLetter : MI := (yX3_hasLetter, cX3_hasLetter, 4, (some .boolean), 1, 21)
abbrev mX3_spread : MI := (yX3_spread, cX3_spread, 6, none, 1, 25)
abbrev mX3_mostOfOneLetter : MI := (yX3_mostOfOneLetter, cX3_mostOfOneLetter, 7, (some .int), 1, 21)
abbrev mX3_allScoresPositive : MI := (yX3_allScoresPositive, cX3_allScoresPositive, 8, (some .boolean), 0, 0)
abbrev mX3_sumOverPairs : MI := (yX3_sumOverPairs, cX3_sumOverPairs, 7, (some .int), 1, 28)
abbrev mX4_read : MI := (yX4_read, cX4_read, 5, none, 1, 23)
abbrev mX4_readRow : MI := (yX4_readRow, cX4_readRow, 4, none, 0, 0)
abbrev mX5_plant : MI := (yX5_plant, cX5_plant, 4, none, 0, 0)
abbrev mX5_setDistance : MI := (yX5_setDistance, cX5_setDistance, 4, none, 1, 23)
abbrev mX5_setBetween : MI := (yX5_setBetween, cX5_setBetween, 4, none, 0, 0)
abbrev mX5_grow : MI := (yX5_grow, cX5_grow, 6, none, 3, 70)
abbrev mX5_isOpen : MI := (yX5_isOpen, cX5_isOpen, 2, (some .boolean), 0, 0)
abbrev mX5_isNearer : MI := (yX5_isNearer, cX5_isNearer, 5, (some .boolean), 2, 46)
abbrev mX5_numerator : MI := (yX5_numerator, cX5_numerator, 6, (some .int), 1, 21)
abbrev mX5_denominator : MI := (yX5_denominator, cX5_denominator, 3, (some .int), 0, 0)
abbrev mX5_join : MI := (yX5_join, cX5_join, 5, none, 2, 46)
abbrev mX5_betweenJoined : MI := (yX5_betweenJoined, cX5_betweenJoined, 5, (some .int), 0, 0)
abbrev mX5_weigh : MI := (yX5_weigh, cX5_weigh, 3, none, 2, 44)
abbrev mX5_climb : MI := (yX5_climb, cX5_climb, 4, (some .int), 1, 21)
abbrev mX6_type : MI := (yX6_type, cX6_type, 3, (some .boolean), 1, 21)
abbrev mX6_end : MI := (yX6_end, cX6_end, 1, (some .int), 2, 47)
abbrev mX6_score : MI := (yX6_score, cX6_score, 4, (some .boolean), 0, 0)
abbrev mX6_gaps : MI := (yX6_gaps, cX6_gaps, 3, (some .boolean), 0, 0)
abbrev mX6_settings : MI := (yX6_settings, cX6_settings, 4, none, 0, 0)
abbrev mX6_words : MI := (yX6_words, cX6_words, 1, (some .int), 0, 0)
abbrev mX6_pair : MI := (yX6_pair, cX6_pair, 3, (some .int), 5, 122)
abbrev mX6_distance : MI := (yX6_distance, cX6_distance, 4, (some .int), 5, 122)
abbrev mX6_align : MI := (yX6_align, cX6_align, 3, (some .int), 6, 145)
abbrev mX6_columns : MI := (yX6_columns, cX6_columns, 1, (some .int), 0, 0)
abbrev mX6_at : MI := (yX6_at, cX6_at, 4, (some .char), 1, 21)
abbrev mX6_mark : MI := (yX6_mark, cX6_mark, 3, (some .char), 2, 47)
abbrev mX6_child : MI := (yX6_child, cX6_child, 3, (some .int), 1, 21)
abbrev mX6_worth : MI := (yX6_worth, cX6_worth, 2, (some .int), 1, 21)
abbrev mX6_weight : MI := (yX6_weight, cX6_weight, 2, (some .int), 1, 21)
abbrev mX6_total : MI := (yX6_total, cX6_total, 1, (some .int), 2, 54)
abbrev mX6_refine : MI := (yX6_refine, cX6_refine, 4, (some .boolean), 4, 100)
abbrev mX6_polish : MI := (yX6_polish, cX6_polish, 5, (some .int), 5, 123)
abbrev mX6_letterOf : MI := (yX6_letterOf, cX6_letterOf, 2, (some .int), 0, 0)
abbrev mX6_share : MI := (yX6_share, cX6_share, 2, (some .int), 0, 0)
abbrev mX6_isWord : MI := (yX6_isWord, cX6_isWord, 2, (some .boolean), 0, 0)
abbrev mX6_areTwoWords : MI := (yX6_areTwoWords, cX6_areTwoWords, 3, (some .boolean), 1, 21)
abbrev mX6_isInnerNode : MI := (yX6_isInnerNode, cX6_isInnerNode, 2, (some .boolean), 0, 0)
abbrev mX6_mergeOnTrial : MI := (yX6_mergeOnTrial, cX6_mergeOnTrial, 3, (some .int), 4, 100)
abbrev mX6_mergeUpTheTree : MI := (yX6_mergeUpTheTree, cX6_mergeUpTheTree, 4, none, 4, 100)
abbrev mX6_holds : MI := (yX6_holds, cX6_holds, 2, (some .boolean), 0, 0)
abbrev mX7_numberOf : MI := (yX7_numberOf, cX7_numberOf, 1, (some .int), 0, 0)
abbrev mX7_letterOf : MI := (yX7_letterOf, cX7_letterOf, 1, (some .char), 0, 0)
abbrev mX7_forget : MI := (yX7_forget, cX7_forget, 1, none, 0, 0)
abbrev mX7_type : MI := (yX7_type, cX7_type, 2, (some .boolean), 1, 20)
abbrev mX7_end : MI := (yX7_end, cX7_end, 2, (some .int), 1, 20)
abbrev mX7_score : MI := (yX7_score, cX7_score, 4, (some .boolean), 1, 20)
abbrev mX7_gaps : MI := (yX7_gaps, cX7_gaps, 3, (some .boolean), 1, 20)
abbrev mX7_settings : MI := (yX7_settings, cX7_settings, 4, none, 1, 20)
abbrev mX7_words : MI := (yX7_words, cX7_words, 1, (some .int), 0, 0)
abbrev mX7_isIn : MI := (yX7_isIn, cX7_isIn, 3, (some .boolean), 0, 0)
abbrev mX7_alone : MI := (yX7_alone, cX7_alone, 4, none, 0, 0)
abbrev mX7_weightOfSet : MI := (yX7_weightOfSet, cX7_weightOfSet, 4, (some .int), 1, 22)
abbrev mX7_prepare : MI := (yX7_prepare, cX7_prepare, 3, none, 2, 47)
abbrev mX7_bothAt : MI := (yX7_bothAt, cX7_bothAt, 6, (some .int), 1, 22)
abbrev mX7_entry : MI := (yX7_entry, cX7_entry, 4, (some .int), 0, 0)
abbrev mX7_stepWorth : MI := (yX7_stepWorth, cX7_stepWorth, 8, (some .int), 1, 23)
abbrev mX7_canStep : MI := (yX7_canStep, cX7_canStep, 4, (some .boolean), 0, 0)
abbrev mX7_merge : MI := (yX7_merge, cX7_merge, 10, (some .int), 3, 79)
abbrev mX7_walk : MI := (yX7_walk, cX7_walk, 10, none, 2, 50)
abbrev mX7_plainFactors : MI := (yX7_plainFactors, cX7_plainFactors, 2, none, 0, 0)
abbrev mX7_areTwo : MI := (yX7_areTwo, cX7_areTwo, 3, (some .boolean), 0, 0)
abbrev mX7_mergeWords : MI := (yX7_mergeWords, cX7_mergeWords, 3, (some .int), 4, 108)
abbrev mX7_pair : MI := (yX7_pair, cX7_pair, 3, (some .int), 5, 130)
abbrev mX7_shared : MI := (yX7_shared, cX7_shared, 7, (some .int), 1, 24)
abbrev mX7_timesIn : MI := (yX7_timesIn, cX7_timesIn, 5, (some .int), 0, 0)
abbrev mX7_distance : MI := (yX7_distance, cX7_distance, 8, (some .int), 5, 130)
abbrev mX7_countOf : MI := (yX7_countOf, cX7_countOf, 4, (some .int), 1, 22)
abbrev mX7_sumOf : MI := (yX7_sumOf, cX7_sumOf, 6, (some .int), 1, 22)
abbrev mX7_spansOf : MI := (yX7_spansOf, cX7_spansOf, 5, (some .int), 0, 0)
abbrev mX7_valueOf : MI := (yX7_valueOf, cX7_valueOf, 5, none, 2, 47)
abbrev mX7_join : MI := (yX7_join, cX7_join, 11, none, 3, 71)
abbrev mX7_weigh : MI := (yX7_weigh, cX7_weigh, 3, none, 2, 45)
abbrev mX7_takeP : MI := (yX7_takeP, cX7_takeP, 3, none, 0, 0)
abbrev mX7_takeQ : MI := (yX7_takeQ, cX7_takeQ, 3, none, 0, 0)
abbrev mX7_useWeights : MI := (yX7_useWeights, cX7_useWeights, 2, none, 0, 0)
abbrev mX7_align : MI := (yX7_align, cX7_align, 4, (some .int), 6, 157)
abbrev mX7_columns : MI := (yX7_columns, cX7_columns, 1, (some .int), 0, 0)
abbrev mX7_at : MI := (yX7_at, cX7_at, 4, (some .char), 1, 20)
abbrev mX7_mark : MI := (yX7_mark, cX7_mark, 10, (some .char), 0, 0)
abbrev mX7_isInner : MI := (yX7_isInner, cX7_isInner, 2, (some .boolean), 0, 0)
abbrev mX7_child : MI := (yX7_child, cX7_child, 3, (some .int), 1, 21)
abbrev mX7_worth : MI := (yX7_worth, cX7_worth, 2, (some .int), 1, 21)
abbrev mX7_weight : MI := (yX7_weight, cX7_weight, 2, (some .int), 0, 0)
abbrev mX7_pairTotal : MI := (yX7_pairTotal, cX7_pairTotal, 11, (some .int), 0, 0)
abbrev mX7_totalOf : MI := (yX7_totalOf, cX7_totalOf, 6, (some .int), 1, 30)
abbrev mX7_total : MI := (yX7_total, cX7_total, 1, (some .int), 2, 55)
abbrev mX7_hasLetter : MI := (yX7_hasLetter, cX7_hasLetter, 5, (some .boolean), 0, 0)
abbrev mX7_refine : MI := (yX7_refine, cX7_refine, 4, (some .boolean), 4, 108)
abbrev mX7_polish : MI := (yX7_polish, cX7_polish, 5, (some .int), 5, 131)
theorem ok_X1_unite : Cond.instanceMethod mX1_unite.y ∈ TB ∧ Cond.selects mX1_unite.y.cls mX1_unite.y mX1_unite.y ∈ TB ∧ Cond.initialized mX1_unite.y.cls ∈ TB ∧ Cond.code mX1_unite.y mX1_unite.cc mX1_unite.ml mX1_unite.rt ∈ TB ∧ (mX1_unite.y.cls ≠ "java/lang/invoke/MethodHandle" ∧ mX1_unite.y.cls ≠ "java/lang/invoke/VarHandle" ∧ (parseMethodDescriptor mX1_unite.y.desc).map (fun d => d.parameters.length) = some 4) := ⟨TB_in (by decide +kernel) (by decide +kernel), TB_in (by decide +kernel) (by decide +kernel), TB_in (by decide +kernel) (by decide +kernel), TB_in (by decide +kernel) (by decide +kernel), by decide +kernel⟩
theorem ok_X1_fill : Cond.instanceMethod mX1_fill.y ∈ TB ∧ Cond.selects mX1_fill.y.cls mX1_fill.y mX1_fill.y ∈ TB ∧ Cond.initialized mX1_fill.y.cls ∈ TB ∧ Cond.code mX1_fill.y mX1_fill.cc mX1_fill.ml mX1_fill.rt ∈ TB ∧ (mX1_fill.y.cls ≠ "java/lang/invoke/MethodHandle" ∧ mX1_fill.y.cls ≠ "java/lang/invoke/VarHandle" ∧ (parseMethodDescriptor mX1_fill.y.desc).map (fun d => d.parameters.length) = some 2) := ⟨TB_in (by decide +kernel) (by decide +kernel), TB_in (by decide +kernel) (by decide +kernel), TB_in (by decide +kernel) (by decide +kernel), TB_in (by decide +kernel) (by decide +kernel), by decide +kernel⟩
theorem ok_X1_walk : Cond.instanceMethod mX1_walk.y ∈ TB ∧ Cond.selects mX1_walk.y.cls mX1_walk.y mX1_walk.y ∈ TB ∧ Cond.initialized mX1_walk.y.cls ∈ TB ∧ Cond.code mX1_walk.y mX1_walk.cc mX1_walk.ml mX1_walk.rt ∈ TB ∧ (mX1_walk.y.cls ≠ "java/lang/invoke/MethodHandle" ∧ mX1_walk.y.cls ≠ "java/lang/invoke/VarHandle" ∧ (parseMethodDescriptor mX1_walk.y.desc).map (fun d => d.parameters.length) = some 0) := ⟨TB_in (by decide +kernel) (by decide +kernel), TB_in (by decide +kernel) (by decide +kernel), TB_in (by decide +kernel) (by decide +kernel), TB_in (by decide +kernel) (by decide +kernel), by decide +kernel⟩
theorem ok_X1_look : Cond.instanceMethod mX1_look.y ∈ TB ∧ Cond.selects mX1_look.y.cls mX1_look.y mX1_look.y ∈ TB ∧ Cond.initialized mX1_look.y.cls ∈ TB ∧ Cond.code mX1_look.y mX1_look.cc mX1_look.ml mX1_look.rt ∈ TB ∧ (mX1_look.y.cls ≠ "java/lang/invoke/MethodHandle" ∧ mX1_look.y.cls ≠ "java/lang/invoke/VarHandle" ∧ (parseMethodDescriptor mX1_look.y.desc).map (fun d => d.parameters.length) = some 2) := ⟨TB_in (by decide +kernel) (by decide +kernel), TB_in (by decide +kernel) (by decide +kernel), TB_in (by decide +kernel) (by decide +kernel), TB_in (by decide +kernel) (by decide +kernel), by decide +kernel⟩
theorem ok_X1_choose : Cond.instanceMethod mX1_choose.y ∈ TB ∧ Cond.selects mX1_choose.y.cls mX1_choose.y mX1_choose.y ∈ TB ∧ Cond.initialized mX1_choose.y.cls ∈ TB ∧ Cond.code mX1_choose.y mX1_choose.cc mX1_choose.ml mX1_choose.rt ∈ TB ∧ (mX1_choose.y.cls ≠ "java/lang/invoke/MethodHandle" ∧ mX1_choose.y.cls ≠ "java/lang/invoke/VarHandle" ∧ (parseMethodDescriptor mX1_choose.y.desc).map (fun d => d.parameters.length) = some 1) := ⟨TB_in (by decide +kernel) (by decide +kernel), TB_in (by decide +kernel) (by decide +kernel), TB_in (by decide +kernel) (by decide +kernel), TB_in (by decide +kernel) (by decide +kernel), by decide +kernel⟩
theorem ok_X1_worthAfter : Cond.instanceMethod mX1_worthAfter.y ∈ TB ∧ Cond.selects mX1_worthAfter.y.cls mX1_worthAfter.y mX1_worthAfter.y ∈ TB ∧ Cond.initialized mX1_worthAfter.y.cls ∈ TB ∧ Cond.code mX1_worthAfter.y mX1_worthAfter.cc mX1_worthAfter.ml mX1_worthAfter.rt ∈ TB ∧ (mX1_worthAfter.y.cls ≠ "java/lang/invoke/MethodHandle" ∧ mX1_worthAfter.y.cls ≠ "java/lang/invoke/VarHandle" ∧ (parseMethodDescriptor mX1_worthAfter.y.desc).map (fun d => d.parameters.length) = some 2) := ⟨TB_in (by decide +kernel) (by decide +kernel), TB_in (by decide +kernel) (by decide +kernel), TB_in (by decide +kernel) (by decide +kernel), TB_in (by decide +kernel) (by decide +kernel), by decide +kernel⟩
theorem ok_X1_match : Cond.instanceMethod mX1_match.y ∈ TB ∧ Cond.selects mX1_match.y.cls mX1_match.y mX1_match.y ∈ TB ∧ Cond.initialized mX1_match.y.cls ∈ TB ∧ Cond.code mX1_match.y mX1_match.cc mX1_match.ml mX1_match.rt ∈ TB ∧ (mX1_match.y.cls ≠ "java/lang/invoke/MethodHandle" ∧ mX1_match.y.cls ≠ "java/lang/invoke/VarHandle" ∧ (parseMethodDescriptor mX1_match.y.desc).map (fun d => d.parameters.length) = some 2) := ⟨TB_in (by decide +kernel) (by decide +kernel), TB_in (by decide +kernel) (by decide +kernel), TB_in (by decide +kernel) (by decide +kernel), TB_in (by decide +kernel) (by decide +kernel), by decide +kernel⟩
theorem ok_X1_place : Cond.instanceMethod mX1_place.y ∈ TB ∧ Cond.selects mX1_place.y.cls mX1_place.y mX1_place.y ∈ TB ∧ Cond.initialized mX1_place.y.cls ∈ TB ∧ Cond.code mX1_place.y mX1_place.cc mX1_place.ml mX1_place.rt ∈ TB ∧ (mX1_place.y.cls ≠ "java/lang/invoke/MethodHandle" ∧ mX1_place.y.cls ≠ "java/lang/invoke/VarHandle" ∧ (parseMethodDescriptor mX1_place.y.desc).map (fun d => d.parameters.length) = some 2) := ⟨TB_in (by decide +kernel) (by decide +kernel), TB_in (by decide +kernel) (by decide +kernel), TB_in (by decide +kernel) (by decide +kernel), TB_in (by decide +kernel) (by decide +kernel), by decide +kernel⟩
theorem ok_X2_copy : Cond.instanceMethod mX2_copy.y ∈ TB ∧ Cond.selects mX2_copy.y.cls mX2_copy.y mX2_copy.y ∈ TB ∧ Cond.initialized mX2_copy.y.cls ∈ TB ∧ Cond.code mX2_copy.y mX2_copy.cc mX2_copy.ml mX2_copy.rt ∈ TB ∧ (mX2_copy.y.cls ≠ "java/lang/invoke/MethodHandle" ∧ mX2_copy.y.cls ≠ "java/lang/invoke/VarHandle" ∧ (parseMethodDescriptor mX2_copy.y.desc).map (fun d => d.parameters.length) = some 1) := ⟨TB_in (by decide +kernel) (by decide +kernel), TB_in (by decide +kernel) (by decide +kernel), TB_in (by decide +kernel) (by decide +kernel), TB_in (by decide +kernel) (by decide +kernel), by decide +kernel⟩
theorem ok_X2_sameLettersAs : Cond.instanceMethod mX2_sameLettersAs.y ∈ TB ∧ Cond.selects mX2_sameLettersAs.y.cls mX2_sameLettersAs.y mX2_sameLettersAs.y ∈ TB ∧ Cond.initialized mX2_sameLettersAs.y.cls ∈ TB ∧ Cond.code mX2_sameLettersAs.y mX2_sameLettersAs.cc mX2_sameLettersAs.ml mX2_sameLettersAs.rt ∈ TB ∧ (mX2_sameLettersAs.y.cls ≠ "java/lang/invoke/MethodHandle" ∧ mX2_sameLettersAs.y.cls ≠ "java/lang/invoke/VarHandle" ∧ (parseMethodDescriptor mX2_sameLettersAs.y.desc).map (fun d => d.parameters.length) = some 1) := ⟨TB_in (by decide +kernel) (by decide +kernel), TB_in (by decide +kernel) (by decide +kernel), TB_in (by decide +kernel) (by decide +kernel), TB_in (by decide +kernel) (by decide +kernel), by decide +kernel⟩
theorem ok_X2_tuplesSharedWith : Cond.instanceMethod mX2_tuplesSharedWith.y ∈ TB ∧ Cond.selects mX2_tuplesSharedWith.y.cls mX2_tuplesSharedWith.y mX2_tuplesSharedWith.y ∈ TB ∧ Cond.initialized mX2_tuplesSharedWith.y.cls ∈ TB ∧ Cond.code mX2_tuplesSharedWith.y mX2_tuplesSharedWith.cc mX2_tuplesSharedWith.ml mX2_tuplesSharedWith.rt ∈ TB ∧ (mX2_tuplesSharedWith.y.cls ≠ "java/lang/invoke/MethodHandle" ∧ mX2_tuplesSharedWith.y.cls ≠ "java/lang/invoke/VarHandle" ∧ (parseMethodDescriptor mX2_tuplesSharedWith.y.desc).map (fun d => d.parameters.length) = some 1) := ⟨TB_in (by decide +kernel) (by decide +kernel), TB_in (by decide +kernel) (by decide +kernel), TB_in (by decide +kernel) (by decide +kernel), TB_in (by decide +kernel) (by decide +kernel), by decide +kernel⟩
theorem ok_X2_timesOfTuple : Cond.instanceMethod mX2_timesOfTuple.y ∈ TB ∧ Cond.selects mX2_timesOfTuple.y.cls mX2_timesOfTuple.y mX2_timesOfTuple.y ∈ TB ∧ Cond.initialized mX2_timesOfTuple.y.cls ∈ TB ∧ Cond.code mX2_timesOfTuple.y mX2_timesOfTuple.cc mX2_timesOfTuple.ml mX2_timesOfTuple.rt ∈ TB ∧ (mX2_timesOfTuple.y.cls ≠ "java/lang/invoke/MethodHandle" ∧ mX2_timesOfTuple.y.cls ≠ "java/lang/invoke/VarHandle" ∧ (parseMethodDescriptor mX2_timesOfTuple.y.desc).map (fun d => d.parameters.length) = some 2) := ⟨TB_in (by decide +kernel) (by decide +kernel), TB_in (by decide +kernel) (by decide +kernel), TB_in (by decide +kernel) (by decide +kernel), TB_in (by decide +kernel) (by decide +kernel), by decide +kernel⟩
theorem ok_X2_spread : Cond.instanceMethod mX2_spread.y ∈ TB ∧ Cond.selects mX2_spread.y.cls mX2_spread.y mX2_spread.y ∈ TB ∧ Cond.initialized mX2_spread.y.cls ∈ TB ∧ Cond.code mX2_spread.y mX2_spread.cc mX2_spread.ml mX2_spread.rt ∈ TB ∧ (mX2_spread.y.cls ≠ "java/lang/invoke/MethodHandle" ∧ mX2_spread.y.cls ≠ "java/lang/invoke/VarHandle" ∧ (parseMethodDescriptor mX2_spread.y.desc).map (fun d => d.parameters.length) = some 3) := ⟨TB_in (by decide +kernel) (by decide +kernel), TB_in (by decide +kernel) (by decide +kernel), TB_in (by decide +kernel) (by decide +kernel), TB_in (by decide +kernel) (by decide +kernel), by decide +kernel⟩
theorem ok_X2_scoreBeside : Cond.instanceMethod mX2_scoreBeside.y ∈ TB ∧ Cond.selects mX2_scoreBeside.y.cls mX2_scoreBeside.y mX2_scoreBeside.y ∈ TB ∧ Cond.initialized mX2_scoreBeside.y.cls ∈ TB ∧ Cond.code mX2_scoreBeside.y mX2_scoreBeside.cc mX2_scoreBeside.ml mX2_scoreBeside.rt ∈ TB ∧ (mX2_scoreBeside.y.cls ≠ "java/lang/invoke/MethodHandle" ∧ mX2_scoreBeside.y.cls ≠ "java/lang/invoke/VarHandle" ∧ (parseMethodDescriptor mX2_scoreBeside.y.desc).map (fun d => d.parameters.length) = some 2) := ⟨TB_in (by decide +kernel) (by decide +kernel), TB_in (by decide +kernel) (by decide +kernel), TB_in (by decide +kernel) (by decide +kernel), TB_in (by decide +kernel) (by decide +kernel), by decide +kernel⟩
theorem ok_X3_copyWithout : Cond.instanceMethod mX3_copyWithout.y ∈ TB ∧ Cond.selects mX3_copyWithout.y.cls mX3_copyWithout.y mX3_copyWithout.y ∈ TB ∧ Cond.initialized mX3_copyWithout.y.cls ∈ TB ∧ Cond.code mX3_copyWithout.y mX3_copyWithout.cc mX3_copyWithout.ml mX3_copyWithout.rt ∈ TB ∧ (mX3_copyWithout.y.cls ≠ "java/lang/invoke/MethodHandle" ∧ mX3_copyWithout.y.cls ≠ "java/lang/invoke/VarHandle" ∧ (parseMethodDescriptor mX3_copyWithout.y.desc).map (fun d => d.parameters.length) = some 2) := ⟨TB_in (by decide +kernel) (by decide +kernel), TB_in (by decide +kernel) (by decide +kernel), TB_in (by decide +kernel) (by decide +kernel), TB_in (by decide +kernel) (by decide +kernel), by decide +kernel⟩
theorem ok_X3_hasLetter : Cond.instanceMethod mX3_hasLetter.y ∈ TB ∧ Cond.selects mX3_hasLetter.y.cls mX3_hasLetter.y mX3_hasLetter.y ∈ TB ∧ Cond.initialized mX3_hasLetter.y.cls ∈ TB ∧ Cond.code mX3_hasLetter.y mX3_hasLetter.cc mX3_hasLetter.ml mX3_hasLetter.rt ∈ TB ∧ (mX3_hasLetter.y.cls ≠ "java/lang/invoke/MethodHandle" ∧ mX3_hasLetter.y.cls ≠ "java/lang/invoke/VarHandle" ∧ (parseMethodDescriptor mX3_hasLetter.y.desc).map (fun d => d.parameters.length) = some 2) := ⟨TB_in (by decide +kernel) (by decide +kernel), TB_in (by decide +kernel) (by decide +kernel), TB_in (by decide +kernel) (by decide +kernel), TB_in (by decide +kernel) (by decide +kernel), by decide +kernel⟩
theorem ok_X3_spread : Cond.instanceMethod mX3_spread.y ∈ TB ∧ Cond.selects mX3_spread.y.cls mX3_spread.y mX3_spread.y ∈ TB ∧ Cond.initialized mX3_spread.y.cls ∈ TB ∧ Cond.code mX3_spread.y mX3_spread.cc mX3_spread.ml mX3_spread.rt ∈ TB ∧ (mX3_spread.y.cls ≠ "java/lang/invoke/MethodHandle" ∧ mX3_spread.y.cls ≠ "java/lang/invoke/VarHandle" ∧ (parseMethodDescriptor mX3_spread.y.desc).map (fun d => d.parameters.length) = some 4) := ⟨TB_in (by decide +kernel) (by decide +kernel), TB_in (by decide +kernel) (by decide +kernel), TB_in (by decide +kernel) (by decide +kernel), TB_in (by decide +kernel) (by decide +kernel), by decide +kernel⟩
theorem ok_X3_mostOfOneLetter : Cond.instanceMethod mX3_mostOfOneLetter.y ∈ TB ∧ Cond.selects mX3_mostOfOneLetter.y.cls mX3_mostOfOneLetter.y mX3_mostOfOneLetter.y ∈ TB ∧ Cond.initialized mX3_mostOfOneLetter.y.cls ∈ TB ∧ Cond.code mX3_mostOfOneLetter.y mX3_mostOfOneLetter.cc mX3_mostOfOneLetter.ml mX3_mostOfOneLetter.rt ∈ TB ∧ (mX3_mostOfOneLetter.y.cls ≠ "java/lang/invoke/MethodHandle" ∧ mX3_mostOfOneLetter.y.cls ≠ "java/lang/invoke/VarHandle" ∧ (parseMethodDescriptor mX3_mostOfOneLetter.y.desc).map (fun d => d.parameters.length) = some 2) := ⟨TB_in (by decide +kernel) (by decide +kernel), TB_in (by decide +kernel) (by decide +kernel), TB_in (by decide +kernel) (by decide +kernel), TB_in (by decide +kernel) (by decide +kernel), by decide +kernel⟩
theorem ok_X3_allScoresPositive : Cond.instanceMethod mX3_allScoresPositive.y ∈ TB ∧ Cond.selects mX3_allScoresPositive.y.cls mX3_allScoresPositive.y mX3_allScoresPositive.y ∈ TB ∧ Cond.initialized mX3_allScoresPositive.y.cls ∈ TB ∧ Cond.code mX3_allScoresPositive.y mX3_allScoresPositive.cc mX3_allScoresPositive.ml mX3_allScoresPositive.rt ∈ TB ∧ (mX3_allScoresPositive.y.cls ≠ "java/lang/invoke/MethodHandle" ∧ mX3_allScoresPositive.y.cls ≠ "java/lang/invoke/VarHandle" ∧ (parseMethodDescriptor mX3_allScoresPositive.y.desc).map (fun d => d.parameters.length) = some 3) := ⟨TB_in (by decide +kernel) (by decide +kernel), TB_in (by decide +kernel) (by decide +kernel), TB_in (by decide +kernel) (by decide +kernel), TB_in (by decide +kernel) (by decide +kernel), by decide +kernel⟩
theorem ok_X3_sumOverPairs : Cond.instanceMethod mX3_sumOverPairs.y ∈ TB ∧ Cond.selects mX3_sumOverPairs.y.cls mX3_sumOverPairs.y mX3_sumOverPairs.y ∈ TB ∧ Cond.initialized mX3_sumOverPairs.y.cls ∈ TB ∧ Cond.code mX3_sumOverPairs.y mX3_sumOverPairs.cc mX3_sumOverPairs.ml mX3_sumOverPairs.rt ∈ TB ∧ (mX3_sumOverPairs.y.cls ≠ "java/lang/invoke/MethodHandle" ∧ mX3_sumOverPairs.y.cls ≠ "java/lang/invoke/VarHandle" ∧ (parseMethodDescriptor mX3_sumOverPairs.y.desc).map (fun d => d.parameters.length) = some 3) := ⟨TB_in (by decide +kernel) (by decide +kernel), TB_in (by decide +kernel) (by decide +kernel), TB_in (by decide +kernel) (by decide +kernel), TB_in (by decide +kernel) (by decide +kernel), by decide +kernel⟩
theorem ok_X4_read : Cond.instanceMethod mX4_read.y ∈ TB ∧ Cond.selects mX4_read.y.cls mX4_read.y mX4_read.y ∈ TB ∧ Cond.initialized mX4_read.y.cls ∈ TB ∧ Cond.code mX4_read.y mX4_read.cc mX4_read.ml mX4_read.rt ∈ TB ∧ (mX4_read.y.cls ≠ "java/lang/invoke/MethodHandle" ∧ mX4_read.y.cls ≠ "java/lang/invoke/VarHandle" ∧ (parseMethodDescriptor mX4_read.y.desc).map (fun d => d.parameters.length) = some 3) := ⟨TB_in (by decide +kernel) (by decide +kernel), TB_in (by decide +kernel) (by decide +kernel), TB_in (by decide +kernel) (by decide +kernel), TB_in (by decide +kernel) (by decide +kernel), by decide +kernel⟩
theorem ok_X4_readRow : Cond.instanceMethod mX4_readRow.y ∈ TB ∧ Cond.selects mX4_readRow.y.cls mX4_readRow.y mX4_readRow.y ∈ TB ∧ Cond.initialized mX4_readRow.y.cls ∈ TB ∧ Cond.code mX4_readRow.y mX4_readRow.cc mX4_readRow.ml mX4_readRow.rt ∈ TB ∧ (mX4_readRow.y.cls ≠ "java/lang/invoke/MethodHandle" ∧ mX4_readRow.y.cls ≠ "java/lang/invoke/VarHandle" ∧ (parseMethodDescriptor mX4_readRow.y.desc).map (fun d => d.parameters.length) = some 2) := ⟨TB_in (by decide +kernel) (by decide +kernel), TB_in (by decide +kernel) (by decide +kernel), TB_in (by decide +kernel) (by decide +kernel), TB_in (by decide +kernel) (by decide +kernel), by decide +kernel⟩
theorem ok_X5_plant : Cond.instanceMethod mX5_plant.y ∈ TB ∧ Cond.selects mX5_plant.y.cls mX5_plant.y mX5_plant.y ∈ TB ∧ Cond.initialized mX5_plant.y.cls ∈ TB ∧ Cond.code mX5_plant.y mX5_plant.cc mX5_plant.ml mX5_plant.rt ∈ TB ∧ (mX5_plant.y.cls ≠ "java/lang/invoke/MethodHandle" ∧ mX5_plant.y.cls ≠ "java/lang/invoke/VarHandle" ∧ (parseMethodDescriptor mX5_plant.y.desc).map (fun d => d.parameters.length) = some 2) := ⟨TB_in (by decide +kernel) (by decide +kernel), TB_in (by decide +kernel) (by decide +kernel), TB_in (by decide +kernel) (by decide +kernel), TB_in (by decide +kernel) (by decide +kernel), by decide +kernel⟩
theorem ok_X5_setDistance : Cond.instanceMethod mX5_setDistance.y ∈ TB ∧ Cond.selects mX5_setDistance.y.cls mX5_setDistance.y mX5_setDistance.y ∈ TB ∧ Cond.initialized mX5_setDistance.y.cls ∈ TB ∧ Cond.code mX5_setDistance.y mX5_setDistance.cc mX5_setDistance.ml mX5_setDistance.rt ∈ TB ∧ (mX5_setDistance.y.cls ≠ "java/lang/invoke/MethodHandle" ∧ mX5_setDistance.y.cls ≠ "java/lang/invoke/VarHandle" ∧ (parseMethodDescriptor mX5_setDistance.y.desc).map (fun d => d.parameters.length) = some 3) := ⟨TB_in (by decide +kernel) (by decide +kernel), TB_in (by decide +kernel) (by decide +kernel), TB_in (by decide +kernel) (by decide +kernel), TB_in (by decide +kernel) (by decide +kernel), by decide +kernel⟩
theorem ok_X5_setBetween : Cond.instanceMethod mX5_setBetween.y ∈ TB ∧ Cond.selects mX5_setBetween.y.cls mX5_setBetween.y mX5_setBetween.y ∈ TB ∧ Cond.initialized mX5_setBetween.y.cls ∈ TB ∧ Cond.code mX5_setBetween.y mX5_setBetween.cc mX5_setBetween.ml mX5_setBetween.rt ∈ TB ∧ (mX5_setBetween.y.cls ≠ "java/lang/invoke/MethodHandle" ∧ mX5_setBetween.y.cls ≠ "java/lang/invoke/VarHandle" ∧ (parseMethodDescriptor mX5_setBetween.y.desc).map (fun d => d.parameters.length) = some 3) := ⟨TB_in (by decide +kernel) (by decide +kernel), TB_in (by decide +kernel) (by decide +kernel), TB_in (by decide +kernel) (by decide +kernel), TB_in (by decide +kernel) (by decide +kernel), by decide +kernel⟩
theorem ok_X5_grow : Cond.instanceMethod mX5_grow.y ∈ TB ∧ Cond.selects mX5_grow.y.cls mX5_grow.y mX5_grow.y ∈ TB ∧ Cond.initialized mX5_grow.y.cls ∈ TB ∧ Cond.code mX5_grow.y mX5_grow.cc mX5_grow.ml mX5_grow.rt ∈ TB ∧ (mX5_grow.y.cls ≠ "java/lang/invoke/MethodHandle" ∧ mX5_grow.y.cls ≠ "java/lang/invoke/VarHandle" ∧ (parseMethodDescriptor mX5_grow.y.desc).map (fun d => d.parameters.length) = some 0) := ⟨TB_in (by decide +kernel) (by decide +kernel), TB_in (by decide +kernel) (by decide +kernel), TB_in (by decide +kernel) (by decide +kernel), TB_in (by decide +kernel) (by decide +kernel), by decide +kernel⟩
theorem ok_X5_isOpen : Cond.instanceMethod mX5_isOpen.y ∈ TB ∧ Cond.selects mX5_isOpen.y.cls mX5_isOpen.y mX5_isOpen.y ∈ TB ∧ Cond.initialized mX5_isOpen.y.cls ∈ TB ∧ Cond.code mX5_isOpen.y mX5_isOpen.cc mX5_isOpen.ml mX5_isOpen.rt ∈ TB ∧ (mX5_isOpen.y.cls ≠ "java/lang/invoke/MethodHandle" ∧ mX5_isOpen.y.cls ≠ "java/lang/invoke/VarHandle" ∧ (parseMethodDescriptor mX5_isOpen.y.desc).map (fun d => d.parameters.length) = some 1) := ⟨TB_in (by decide +kernel) (by decide +kernel), TB_in (by decide +kernel) (by decide +kernel), TB_in (by decide +kernel) (by decide +kernel), TB_in (by decide +kernel) (by decide +kernel), by decide +kernel⟩
theorem ok_X5_isNearer : Cond.instanceMethod mX5_isNearer.y ∈ TB ∧ Cond.selects mX5_isNearer.y.cls mX5_isNearer.y mX5_isNearer.y ∈ TB ∧ Cond.initialized mX5_isNearer.y.cls ∈ TB ∧ Cond.code mX5_isNearer.y mX5_isNearer.cc mX5_isNearer.ml mX5_isNearer.rt ∈ TB ∧ (mX5_isNearer.y.cls ≠ "java/lang/invoke/MethodHandle" ∧ mX5_isNearer.y.cls ≠ "java/lang/invoke/VarHandle" ∧ (parseMethodDescriptor mX5_isNearer.y.desc).map (fun d => d.parameters.length) = some 4) := ⟨TB_in (by decide +kernel) (by decide +kernel), TB_in (by decide +kernel) (by decide +kernel), TB_in (by decide +kernel) (by decide +kernel), TB_in (by decide +kernel) (by decide +kernel), by decide +kernel⟩
theorem ok_X5_numerator : Cond.instanceMethod mX5_numerator.y ∈ TB ∧ Cond.selects mX5_numerator.y.cls mX5_numerator.y mX5_numerator.y ∈ TB ∧ Cond.initialized mX5_numerator.y.cls ∈ TB ∧ Cond.code mX5_numerator.y mX5_numerator.cc mX5_numerator.ml mX5_numerator.rt ∈ TB ∧ (mX5_numerator.y.cls ≠ "java/lang/invoke/MethodHandle" ∧ mX5_numerator.y.cls ≠ "java/lang/invoke/VarHandle" ∧ (parseMethodDescriptor mX5_numerator.y.desc).map (fun d => d.parameters.length) = some 2) := ⟨TB_in (by decide +kernel) (by decide +kernel), TB_in (by decide +kernel) (by decide +kernel), TB_in (by decide +kernel) (by decide +kernel), TB_in (by decide +kernel) (by decide +kernel), by decide +kernel⟩
theorem ok_X5_denominator : Cond.instanceMethod mX5_denominator.y ∈ TB ∧ Cond.selects mX5_denominator.y.cls mX5_denominator.y mX5_denominator.y ∈ TB ∧ Cond.initialized mX5_denominator.y.cls ∈ TB ∧ Cond.code mX5_denominator.y mX5_denominator.cc mX5_denominator.ml mX5_denominator.rt ∈ TB ∧ (mX5_denominator.y.cls ≠ "java/lang/invoke/MethodHandle" ∧ mX5_denominator.y.cls ≠ "java/lang/invoke/VarHandle" ∧ (parseMethodDescriptor mX5_denominator.y.desc).map (fun d => d.parameters.length) = some 2) := ⟨TB_in (by decide +kernel) (by decide +kernel), TB_in (by decide +kernel) (by decide +kernel), TB_in (by decide +kernel) (by decide +kernel), TB_in (by decide +kernel) (by decide +kernel), by decide +kernel⟩
theorem ok_X5_join : Cond.instanceMethod mX5_join.y ∈ TB ∧ Cond.selects mX5_join.y.cls mX5_join.y mX5_join.y ∈ TB ∧ Cond.initialized mX5_join.y.cls ∈ TB ∧ Cond.code mX5_join.y mX5_join.cc mX5_join.ml mX5_join.rt ∈ TB ∧ (mX5_join.y.cls ≠ "java/lang/invoke/MethodHandle" ∧ mX5_join.y.cls ≠ "java/lang/invoke/VarHandle" ∧ (parseMethodDescriptor mX5_join.y.desc).map (fun d => d.parameters.length) = some 2) := ⟨TB_in (by decide +kernel) (by decide +kernel), TB_in (by decide +kernel) (by decide +kernel), TB_in (by decide +kernel) (by decide +kernel), TB_in (by decide +kernel) (by decide +kernel), by decide +kernel⟩
theorem ok_X5_betweenJoined : Cond.instanceMethod mX5_betweenJoined.y ∈ TB ∧ Cond.selects mX5_betweenJoined.y.cls mX5_betweenJoined.y mX5_betweenJoined.y ∈ TB ∧ Cond.initialized mX5_betweenJoined.y.cls ∈ TB ∧ Cond.code mX5_betweenJoined.y mX5_betweenJoined.cc mX5_betweenJoined.ml mX5_betweenJoined.rt ∈ TB ∧ (mX5_betweenJoined.y.cls ≠ "java/lang/invoke/MethodHandle" ∧ mX5_betweenJoined.y.cls ≠ "java/lang/invoke/VarHandle" ∧ (parseMethodDescriptor mX5_betweenJoined.y.desc).map (fun d => d.parameters.length) = some 3) := ⟨TB_in (by decide +kernel) (by decide +kernel), TB_in (by decide +kernel) (by decide +kernel), TB_in (by decide +kernel) (by decide +kernel), TB_in (by decide +kernel) (by decide +kernel), by decide +kernel⟩
theorem ok_X5_weigh : Cond.instanceMethod mX5_weigh.y ∈ TB ∧ Cond.selects mX5_weigh.y.cls mX5_weigh.y mX5_weigh.y ∈ TB ∧ Cond.initialized mX5_weigh.y.cls ∈ TB ∧ Cond.code mX5_weigh.y mX5_weigh.cc mX5_weigh.ml mX5_weigh.rt ∈ TB ∧ (mX5_weigh.y.cls ≠ "java/lang/invoke/MethodHandle" ∧ mX5_weigh.y.cls ≠ "java/lang/invoke/VarHandle" ∧ (parseMethodDescriptor mX5_weigh.y.desc).map (fun d => d.parameters.length) = some 1) := ⟨TB_in (by decide +kernel) (by decide +kernel), TB_in (by decide +kernel) (by decide +kernel), TB_in (by decide +kernel) (by decide +kernel), TB_in (by decide +kernel) (by decide +kernel), by decide +kernel⟩
theorem ok_X5_climb : Cond.instanceMethod mX5_climb.y ∈ TB ∧ Cond.selects mX5_climb.y.cls mX5_climb.y mX5_climb.y ∈ TB ∧ Cond.initialized mX5_climb.y.cls ∈ TB ∧ Cond.code mX5_climb.y mX5_climb.cc mX5_climb.ml mX5_climb.rt ∈ TB ∧ (mX5_climb.y.cls ≠ "java/lang/invoke/MethodHandle" ∧ mX5_climb.y.cls ≠ "java/lang/invoke/VarHandle" ∧ (parseMethodDescriptor mX5_climb.y.desc).map (fun d => d.parameters.length) = some 1) := ⟨TB_in (by decide +kernel) (by decide +kernel), TB_in (by decide +kernel) (by decide +kernel), TB_in (by decide +kernel) (by decide +kernel), TB_in (by decide +kernel) (by decide +kernel), by decide +kernel⟩
theorem ok_X6_type : Cond.instanceMethod mX6_type.y ∈ TB ∧ Cond.selects mX6_type.y.cls mX6_type.y mX6_type.y ∈ TB ∧ Cond.initialized mX6_type.y.cls ∈ TB ∧ Cond.code mX6_type.y mX6_type.cc mX6_type.ml mX6_type.rt ∈ TB ∧ (mX6_type.y.cls ≠ "java/lang/invoke/MethodHandle" ∧ mX6_type.y.cls ≠ "java/lang/invoke/VarHandle" ∧ (parseMethodDescriptor mX6_type.y.desc).map (fun d => d.parameters.length) = some 1) := ⟨TB_in (by decide +kernel) (by decide +kernel), TB_in (by decide +kernel) (by decide +kernel), TB_in (by decide +kernel) (by decide +kernel), TB_in (by decide +kernel) (by decide +kernel), by decide +kernel⟩
theorem ok_X6_end : Cond.instanceMethod mX6_end.y ∈ TB ∧ Cond.selects mX6_end.y.cls mX6_end.y mX6_end.y ∈ TB ∧ Cond.initialized mX6_end.y.cls ∈ TB ∧ Cond.code mX6_end.y mX6_end.cc mX6_end.ml mX6_end.rt ∈ TB ∧ (mX6_end.y.cls ≠ "java/lang/invoke/MethodHandle" ∧ mX6_end.y.cls ≠ "java/lang/invoke/VarHandle" ∧ (parseMethodDescriptor mX6_end.y.desc).map (fun d => d.parameters.length) = some 0) := ⟨TB_in (by decide +kernel) (by decide +kernel), TB_in (by decide +kernel) (by decide +kernel), TB_in (by decide +kernel) (by decide +kernel), TB_in (by decide +kernel) (by decide +kernel), by decide +kernel⟩
theorem ok_X6_score : Cond.instanceMethod mX6_score.y ∈ TB ∧ Cond.selects mX6_score.y.cls mX6_score.y mX6_score.y ∈ TB ∧ Cond.initialized mX6_score.y.cls ∈ TB ∧ Cond.code mX6_score.y mX6_score.cc mX6_score.ml mX6_score.rt ∈ TB ∧ (mX6_score.y.cls ≠ "java/lang/invoke/MethodHandle" ∧ mX6_score.y.cls ≠ "java/lang/invoke/VarHandle" ∧ (parseMethodDescriptor mX6_score.y.desc).map (fun d => d.parameters.length) = some 3) := ⟨TB_in (by decide +kernel) (by decide +kernel), TB_in (by decide +kernel) (by decide +kernel), TB_in (by decide +kernel) (by decide +kernel), TB_in (by decide +kernel) (by decide +kernel), by decide +kernel⟩
theorem ok_X6_gaps : Cond.instanceMethod mX6_gaps.y ∈ TB ∧ Cond.selects mX6_gaps.y.cls mX6_gaps.y mX6_gaps.y ∈ TB ∧ Cond.initialized mX6_gaps.y.cls ∈ TB ∧ Cond.code mX6_gaps.y mX6_gaps.cc mX6_gaps.ml mX6_gaps.rt ∈ TB ∧ (mX6_gaps.y.cls ≠ "java/lang/invoke/MethodHandle" ∧ mX6_gaps.y.cls ≠ "java/lang/invoke/VarHandle" ∧ (parseMethodDescriptor mX6_gaps.y.desc).map (fun d => d.parameters.length) = some 2) := ⟨TB_in (by decide +kernel) (by decide +kernel), TB_in (by decide +kernel) (by decide +kernel), TB_in (by decide +kernel) (by decide +kernel), TB_in (by decide +kernel) (by decide +kernel), by decide +kernel⟩
theorem ok_X6_settings : Cond.instanceMethod mX6_settings.y ∈ TB ∧ Cond.selects mX6_settings.y.cls mX6_settings.y mX6_settings.y ∈ TB ∧ Cond.initialized mX6_settings.y.cls ∈ TB ∧ Cond.code mX6_settings.y mX6_settings.cc mX6_settings.ml mX6_settings.rt ∈ TB ∧ (mX6_settings.y.cls ≠ "java/lang/invoke/MethodHandle" ∧ mX6_settings.y.cls ≠ "java/lang/invoke/VarHandle" ∧ (parseMethodDescriptor mX6_settings.y.desc).map (fun d => d.parameters.length) = some 3) := ⟨TB_in (by decide +kernel) (by decide +kernel), TB_in (by decide +kernel) (by decide +kernel), TB_in (by decide +kernel) (by decide +kernel), TB_in (by decide +kernel) (by decide +kernel), by decide +kernel⟩
theorem ok_X6_words : Cond.instanceMethod mX6_words.y ∈ TB ∧ Cond.selects mX6_words.y.cls mX6_words.y mX6_words.y ∈ TB ∧ Cond.initialized mX6_words.y.cls ∈ TB ∧ Cond.code mX6_words.y mX6_words.cc mX6_words.ml mX6_words.rt ∈ TB ∧ (mX6_words.y.cls ≠ "java/lang/invoke/MethodHandle" ∧ mX6_words.y.cls ≠ "java/lang/invoke/VarHandle" ∧ (parseMethodDescriptor mX6_words.y.desc).map (fun d => d.parameters.length) = some 0) := ⟨TB_in (by decide +kernel) (by decide +kernel), TB_in (by decide +kernel) (by decide +kernel), TB_in (by decide +kernel) (by decide +kernel), TB_in (by decide +kernel) (by decide +kernel), by decide +kernel⟩
theorem ok_X6_pair : Cond.instanceMethod mX6_pair.y ∈ TB ∧ Cond.selects mX6_pair.y.cls mX6_pair.y mX6_pair.y ∈ TB ∧ Cond.initialized mX6_pair.y.cls ∈ TB ∧ Cond.code mX6_pair.y mX6_pair.cc mX6_pair.ml mX6_pair.rt ∈ TB ∧ (mX6_pair.y.cls ≠ "java/lang/invoke/MethodHandle" ∧ mX6_pair.y.cls ≠ "java/lang/invoke/VarHandle" ∧ (parseMethodDescriptor mX6_pair.y.desc).map (fun d => d.parameters.length) = some 2) := ⟨TB_in (by decide +kernel) (by decide +kernel), TB_in (by decide +kernel) (by decide +kernel), TB_in (by decide +kernel) (by decide +kernel), TB_in (by decide +kernel) (by decide +kernel), by decide +kernel⟩
theorem ok_X6_distance : Cond.instanceMethod mX6_distance.y ∈ TB ∧ Cond.selects mX6_distance.y.cls mX6_distance.y mX6_distance.y ∈ TB ∧ Cond.initialized mX6_distance.y.cls ∈ TB ∧ Cond.code mX6_distance.y mX6_distance.cc mX6_distance.ml mX6_distance.rt ∈ TB ∧ (mX6_distance.y.cls ≠ "java/lang/invoke/MethodHandle" ∧ mX6_distance.y.cls ≠ "java/lang/invoke/VarHandle" ∧ (parseMethodDescriptor mX6_distance.y.desc).map (fun d => d.parameters.length) = some 2) := ⟨TB_in (by decide +kernel) (by decide +kernel), TB_in (by decide +kernel) (by decide +kernel), TB_in (by decide +kernel) (by decide +kernel), TB_in (by decide +kernel) (by decide +kernel), by decide +kernel⟩
theorem ok_X6_align : Cond.instanceMethod mX6_align.y ∈ TB ∧ Cond.selects mX6_align.y.cls mX6_align.y mX6_align.y ∈ TB ∧ Cond.initialized mX6_align.y.cls ∈ TB ∧ Cond.code mX6_align.y mX6_align.cc mX6_align.ml mX6_align.rt ∈ TB ∧ (mX6_align.y.cls ≠ "java/lang/invoke/MethodHandle" ∧ mX6_align.y.cls ≠ "java/lang/invoke/VarHandle" ∧ (parseMethodDescriptor mX6_align.y.desc).map (fun d => d.parameters.length) = some 0) := ⟨TB_in (by decide +kernel) (by decide +kernel), TB_in (by decide +kernel) (by decide +kernel), TB_in (by decide +kernel) (by decide +kernel), TB_in (by decide +kernel) (by decide +kernel), by decide +kernel⟩
theorem ok_X6_columns : Cond.instanceMethod mX6_columns.y ∈ TB ∧ Cond.selects mX6_columns.y.cls mX6_columns.y mX6_columns.y ∈ TB ∧ Cond.initialized mX6_columns.y.cls ∈ TB ∧ Cond.code mX6_columns.y mX6_columns.cc mX6_columns.ml mX6_columns.rt ∈ TB ∧ (mX6_columns.y.cls ≠ "java/lang/invoke/MethodHandle" ∧ mX6_columns.y.cls ≠ "java/lang/invoke/VarHandle" ∧ (parseMethodDescriptor mX6_columns.y.desc).map (fun d => d.parameters.length) = some 0) := ⟨TB_in (by decide +kernel) (by decide +kernel), TB_in (by decide +kernel) (by decide +kernel), TB_in (by decide +kernel) (by decide +kernel), TB_in (by decide +kernel) (by decide +kernel), by decide +kernel⟩
theorem ok_X6_at : Cond.instanceMethod mX6_at.y ∈ TB ∧ Cond.selects mX6_at.y.cls mX6_at.y mX6_at.y ∈ TB ∧ Cond.initialized mX6_at.y.cls ∈ TB ∧ Cond.code mX6_at.y mX6_at.cc mX6_at.ml mX6_at.rt ∈ TB ∧ (mX6_at.y.cls ≠ "java/lang/invoke/MethodHandle" ∧ mX6_at.y.cls ≠ "java/lang/invoke/VarHandle" ∧ (parseMethodDescriptor mX6_at.y.desc).map (fun d => d.parameters.length) = some 2) := ⟨TB_in (by decide +kernel) (by decide +kernel), TB_in (by decide +kernel) (by decide +kernel), TB_in (by decide +kernel) (by decide +kernel), TB_in (by decide +kernel) (by decide +kernel), by decide +kernel⟩
theorem ok_X6_mark : Cond.instanceMethod mX6_mark.y ∈ TB ∧ Cond.selects mX6_mark.y.cls mX6_mark.y mX6_mark.y ∈ TB ∧ Cond.initialized mX6_mark.y.cls ∈ TB ∧ Cond.code mX6_mark.y mX6_mark.cc mX6_mark.ml mX6_mark.rt ∈ TB ∧ (mX6_mark.y.cls ≠ "java/lang/invoke/MethodHandle" ∧ mX6_mark.y.cls ≠ "java/lang/invoke/VarHandle" ∧ (parseMethodDescriptor mX6_mark.y.desc).map (fun d => d.parameters.length) = some 1) := ⟨TB_in (by decide +kernel) (by decide +kernel), TB_in (by decide +kernel) (by decide +kernel), TB_in (by decide +kernel) (by decide +kernel), TB_in (by decide +kernel) (by decide +kernel), by decide +kernel⟩
theorem ok_X6_child : Cond.instanceMethod mX6_child.y ∈ TB ∧ Cond.selects mX6_child.y.cls mX6_child.y mX6_child.y ∈ TB ∧ Cond.initialized mX6_child.y.cls ∈ TB ∧ Cond.code mX6_child.y mX6_child.cc mX6_child.ml mX6_child.rt ∈ TB ∧ (mX6_child.y.cls ≠ "java/lang/invoke/MethodHandle" ∧ mX6_child.y.cls ≠ "java/lang/invoke/VarHandle" ∧ (parseMethodDescriptor mX6_child.y.desc).map (fun d => d.parameters.length) = some 2) := ⟨TB_in (by decide +kernel) (by decide +kernel), TB_in (by decide +kernel) (by decide +kernel), TB_in (by decide +kernel) (by decide +kernel), TB_in (by decide +kernel) (by decide +kernel), by decide +kernel⟩
theorem ok_X6_worth : Cond.instanceMethod mX6_worth.y ∈ TB ∧ Cond.selects mX6_worth.y.cls mX6_worth.y mX6_worth.y ∈ TB ∧ Cond.initialized mX6_worth.y.cls ∈ TB ∧ Cond.code mX6_worth.y mX6_worth.cc mX6_worth.ml mX6_worth.rt ∈ TB ∧ (mX6_worth.y.cls ≠ "java/lang/invoke/MethodHandle" ∧ mX6_worth.y.cls ≠ "java/lang/invoke/VarHandle" ∧ (parseMethodDescriptor mX6_worth.y.desc).map (fun d => d.parameters.length) = some 1) := ⟨TB_in (by decide +kernel) (by decide +kernel), TB_in (by decide +kernel) (by decide +kernel), TB_in (by decide +kernel) (by decide +kernel), TB_in (by decide +kernel) (by decide +kernel), by decide +kernel⟩
theorem ok_X6_weight : Cond.instanceMethod mX6_weight.y ∈ TB ∧ Cond.selects mX6_weight.y.cls mX6_weight.y mX6_weight.y ∈ TB ∧ Cond.initialized mX6_weight.y.cls ∈ TB ∧ Cond.code mX6_weight.y mX6_weight.cc mX6_weight.ml mX6_weight.rt ∈ TB ∧ (mX6_weight.y.cls ≠ "java/lang/invoke/MethodHandle" ∧ mX6_weight.y.cls ≠ "java/lang/invoke/VarHandle" ∧ (parseMethodDescriptor mX6_weight.y.desc).map (fun d => d.parameters.length) = some 1) := ⟨TB_in (by decide +kernel) (by decide +kernel), TB_in (by decide +kernel) (by decide +kernel), TB_in (by decide +kernel) (by decide +kernel), TB_in (by decide +kernel) (by decide +kernel), by decide +kernel⟩
theorem ok_X6_total : Cond.instanceMethod mX6_total.y ∈ TB ∧ Cond.selects mX6_total.y.cls mX6_total.y mX6_total.y ∈ TB ∧ Cond.initialized mX6_total.y.cls ∈ TB ∧ Cond.code mX6_total.y mX6_total.cc mX6_total.ml mX6_total.rt ∈ TB ∧ (mX6_total.y.cls ≠ "java/lang/invoke/MethodHandle" ∧ mX6_total.y.cls ≠ "java/lang/invoke/VarHandle" ∧ (parseMethodDescriptor mX6_total.y.desc).map (fun d => d.parameters.length) = some 0) := ⟨TB_in (by decide +kernel) (by decide +kernel), TB_in (by decide +kernel) (by decide +kernel), TB_in (by decide +kernel) (by decide +kernel), TB_in (by decide +kernel) (by decide +kernel), by decide +kernel⟩
theorem ok_X6_refine : Cond.instanceMethod mX6_refine.y ∈ TB ∧ Cond.selects mX6_refine.y.cls mX6_refine.y mX6_refine.y ∈ TB ∧ Cond.initialized mX6_refine.y.cls ∈ TB ∧ Cond.code mX6_refine.y mX6_refine.cc mX6_refine.ml mX6_refine.rt ∈ TB ∧ (mX6_refine.y.cls ≠ "java/lang/invoke/MethodHandle" ∧ mX6_refine.y.cls ≠ "java/lang/invoke/VarHandle" ∧ (parseMethodDescriptor mX6_refine.y.desc).map (fun d => d.parameters.length) = some 1) := ⟨TB_in (by decide +kernel) (by decide +kernel), TB_in (by decide +kernel) (by decide +kernel), TB_in (by decide +kernel) (by decide +kernel), TB_in (by decide +kernel) (by decide +kernel), by decide +kernel⟩
theorem ok_X6_polish : Cond.instanceMethod mX6_polish.y ∈ TB ∧ Cond.selects mX6_polish.y.cls mX6_polish.y mX6_polish.y ∈ TB ∧ Cond.initialized mX6_polish.y.cls ∈ TB ∧ Cond.code mX6_polish.y mX6_polish.cc mX6_polish.ml mX6_polish.rt ∈ TB ∧ (mX6_polish.y.cls ≠ "java/lang/invoke/MethodHandle" ∧ mX6_polish.y.cls ≠ "java/lang/invoke/VarHandle" ∧ (parseMethodDescriptor mX6_polish.y.desc).map (fun d => d.parameters.length) = some 0) := ⟨TB_in (by decide +kernel) (by decide +kernel), TB_in (by decide +kernel) (by decide +kernel), TB_in (by decide +kernel) (by decide +kernel), TB_in (by decide +kernel) (by decide +kernel), by decide +kernel⟩
theorem ok_X6_letterOf : Cond.static mX6_letterOf.y ∈ TB ∧ Cond.initialized mX6_letterOf.y.cls ∈ TB ∧ Cond.code mX6_letterOf.y mX6_letterOf.cc mX6_letterOf.ml mX6_letterOf.rt ∈ TB ∧ (mX6_letterOf.y.cls ≠ "java/lang/invoke/MethodHandle" ∧ mX6_letterOf.y.cls ≠ "java/lang/invoke/VarHandle" ∧ (parseMethodDescriptor mX6_letterOf.y.desc).map (fun d => d.parameters.length) = some 1) := ⟨TB_in (by decide +kernel) (by decide +kernel), TB_in (by decide +kernel) (by decide +kernel), TB_in (by decide +kernel) (by decide +kernel), by decide +kernel⟩
theorem ok_X6_share : Cond.static mX6_share.y ∈ TB ∧ Cond.initialized mX6_share.y.cls ∈ TB ∧ Cond.code mX6_share.y mX6_share.cc mX6_share.ml mX6_share.rt ∈ TB ∧ (mX6_share.y.cls ≠ "java/lang/invoke/MethodHandle" ∧ mX6_share.y.cls ≠ "java/lang/invoke/VarHandle" ∧ (parseMethodDescriptor mX6_share.y.desc).map (fun d => d.parameters.length) = some 2) := ⟨TB_in (by decide +kernel) (by decide +kernel), TB_in (by decide +kernel) (by decide +kernel), TB_in (by decide +kernel) (by decide +kernel), by decide +kernel⟩
theorem ok_X6_isWord : Cond.instanceMethod mX6_isWord.y ∈ TB ∧ Cond.selects mX6_isWord.y.cls mX6_isWord.y mX6_isWord.y ∈ TB ∧ Cond.initialized mX6_isWord.y.cls ∈ TB ∧ Cond.code mX6_isWord.y mX6_isWord.cc mX6_isWord.ml mX6_isWord.rt ∈ TB ∧ (mX6_isWord.y.cls ≠ "java/lang/invoke/MethodHandle" ∧ mX6_isWord.y.cls ≠ "java/lang/invoke/VarHandle" ∧ (parseMethodDescriptor mX6_isWord.y.desc).map (fun d => d.parameters.length) = some 1) := ⟨TB_in (by decide +kernel) (by decide +kernel), TB_in (by decide +kernel) (by decide +kernel), TB_in (by decide +kernel) (by decide +kernel), TB_in (by decide +kernel) (by decide +kernel), by decide +kernel⟩
theorem ok_X6_areTwoWords : Cond.instanceMethod mX6_areTwoWords.y ∈ TB ∧ Cond.selects mX6_areTwoWords.y.cls mX6_areTwoWords.y mX6_areTwoWords.y ∈ TB ∧ Cond.initialized mX6_areTwoWords.y.cls ∈ TB ∧ Cond.code mX6_areTwoWords.y mX6_areTwoWords.cc mX6_areTwoWords.ml mX6_areTwoWords.rt ∈ TB ∧ (mX6_areTwoWords.y.cls ≠ "java/lang/invoke/MethodHandle" ∧ mX6_areTwoWords.y.cls ≠ "java/lang/invoke/VarHandle" ∧ (parseMethodDescriptor mX6_areTwoWords.y.desc).map (fun d => d.parameters.length) = some 2) := ⟨TB_in (by decide +kernel) (by decide +kernel), TB_in (by decide +kernel) (by decide +kernel), TB_in (by decide +kernel) (by decide +kernel), TB_in (by decide +kernel) (by decide +kernel), by decide +kernel⟩
theorem ok_X6_isInnerNode : Cond.instanceMethod mX6_isInnerNode.y ∈ TB ∧ Cond.selects mX6_isInnerNode.y.cls mX6_isInnerNode.y mX6_isInnerNode.y ∈ TB ∧ Cond.initialized mX6_isInnerNode.y.cls ∈ TB ∧ Cond.code mX6_isInnerNode.y mX6_isInnerNode.cc mX6_isInnerNode.ml mX6_isInnerNode.rt ∈ TB ∧ (mX6_isInnerNode.y.cls ≠ "java/lang/invoke/MethodHandle" ∧ mX6_isInnerNode.y.cls ≠ "java/lang/invoke/VarHandle" ∧ (parseMethodDescriptor mX6_isInnerNode.y.desc).map (fun d => d.parameters.length) = some 1) := ⟨TB_in (by decide +kernel) (by decide +kernel), TB_in (by decide +kernel) (by decide +kernel), TB_in (by decide +kernel) (by decide +kernel), TB_in (by decide +kernel) (by decide +kernel), by decide +kernel⟩
theorem ok_X6_mergeOnTrial : Cond.instanceMethod mX6_mergeOnTrial.y ∈ TB ∧ Cond.selects mX6_mergeOnTrial.y.cls mX6_mergeOnTrial.y mX6_mergeOnTrial.y ∈ TB ∧ Cond.initialized mX6_mergeOnTrial.y.cls ∈ TB ∧ Cond.code mX6_mergeOnTrial.y mX6_mergeOnTrial.cc mX6_mergeOnTrial.ml mX6_mergeOnTrial.rt ∈ TB ∧ (mX6_mergeOnTrial.y.cls ≠ "java/lang/invoke/MethodHandle" ∧ mX6_mergeOnTrial.y.cls ≠ "java/lang/invoke/VarHandle" ∧ (parseMethodDescriptor mX6_mergeOnTrial.y.desc).map (fun d => d.parameters.length) = some 2) := ⟨TB_in (by decide +kernel) (by decide +kernel), TB_in (by decide +kernel) (by decide +kernel), TB_in (by decide +kernel) (by decide +kernel), TB_in (by decide +kernel) (by decide +kernel), by decide +kernel⟩
theorem ok_X6_mergeUpTheTree : Cond.instanceMethod mX6_mergeUpTheTree.y ∈ TB ∧ Cond.selects mX6_mergeUpTheTree.y.cls mX6_mergeUpTheTree.y mX6_mergeUpTheTree.y ∈ TB ∧ Cond.initialized mX6_mergeUpTheTree.y.cls ∈ TB ∧ Cond.code mX6_mergeUpTheTree.y mX6_mergeUpTheTree.cc mX6_mergeUpTheTree.ml mX6_mergeUpTheTree.rt ∈ TB ∧ (mX6_mergeUpTheTree.y.cls ≠ "java/lang/invoke/MethodHandle" ∧ mX6_mergeUpTheTree.y.cls ≠ "java/lang/invoke/VarHandle" ∧ (parseMethodDescriptor mX6_mergeUpTheTree.y.desc).map (fun d => d.parameters.length) = some 0) := ⟨TB_in (by decide +kernel) (by decide +kernel), TB_in (by decide +kernel) (by decide +kernel), TB_in (by decide +kernel) (by decide +kernel), TB_in (by decide +kernel) (by decide +kernel), by decide +kernel⟩
theorem ok_X6_holds : Cond.static mX6_holds.y ∈ TB ∧ Cond.initialized mX6_holds.y.cls ∈ TB ∧ Cond.code mX6_holds.y mX6_holds.cc mX6_holds.ml mX6_holds.rt ∈ TB ∧ (mX6_holds.y.cls ≠ "java/lang/invoke/MethodHandle" ∧ mX6_holds.y.cls ≠ "java/lang/invoke/VarHandle" ∧ (parseMethodDescriptor mX6_holds.y.desc).map (fun d => d.parameters.length) = some 2) := ⟨TB_in (by decide +kernel) (by decide +kernel), TB_in (by decide +kernel) (by decide +kernel), TB_in (by decide +kernel) (by decide +kernel), by decide +kernel⟩
theorem ok_X7_numberOf : Cond.static mX7_numberOf.y ∈ TB ∧ Cond.initialized mX7_numberOf.y.cls ∈ TB ∧ Cond.code mX7_numberOf.y mX7_numberOf.cc mX7_numberOf.ml mX7_numberOf.rt ∈ TB ∧ (mX7_numberOf.y.cls ≠ "java/lang/invoke/MethodHandle" ∧ mX7_numberOf.y.cls ≠ "java/lang/invoke/VarHandle" ∧ (parseMethodDescriptor mX7_numberOf.y.desc).map (fun d => d.parameters.length) = some 1) := ⟨TB_in (by decide +kernel) (by decide +kernel), TB_in (by decide +kernel) (by decide +kernel), TB_in (by decide +kernel) (by decide +kernel), by decide +kernel⟩
theorem ok_X7_letterOf : Cond.static mX7_letterOf.y ∈ TB ∧ Cond.initialized mX7_letterOf.y.cls ∈ TB ∧ Cond.code mX7_letterOf.y mX7_letterOf.cc mX7_letterOf.ml mX7_letterOf.rt ∈ TB ∧ (mX7_letterOf.y.cls ≠ "java/lang/invoke/MethodHandle" ∧ mX7_letterOf.y.cls ≠ "java/lang/invoke/VarHandle" ∧ (parseMethodDescriptor mX7_letterOf.y.desc).map (fun d => d.parameters.length) = some 1) := ⟨TB_in (by decide +kernel) (by decide +kernel), TB_in (by decide +kernel) (by decide +kernel), TB_in (by decide +kernel) (by decide +kernel), by decide +kernel⟩
theorem ok_X7_forget : Cond.instanceMethod mX7_forget.y ∈ TB ∧ Cond.selects mX7_forget.y.cls mX7_forget.y mX7_forget.y ∈ TB ∧ Cond.initialized mX7_forget.y.cls ∈ TB ∧ Cond.code mX7_forget.y mX7_forget.cc mX7_forget.ml mX7_forget.rt ∈ TB ∧ (mX7_forget.y.cls ≠ "java/lang/invoke/MethodHandle" ∧ mX7_forget.y.cls ≠ "java/lang/invoke/VarHandle" ∧ (parseMethodDescriptor mX7_forget.y.desc).map (fun d => d.parameters.length) = some 0) := ⟨TB_in (by decide +kernel) (by decide +kernel), TB_in (by decide +kernel) (by decide +kernel), TB_in (by decide +kernel) (by decide +kernel), TB_in (by decide +kernel) (by decide +kernel), by decide +kernel⟩
theorem ok_X7_type : Cond.instanceMethod mX7_type.y ∈ TB ∧ Cond.selects mX7_type.y.cls mX7_type.y mX7_type.y ∈ TB ∧ Cond.initialized mX7_type.y.cls ∈ TB ∧ Cond.code mX7_type.y mX7_type.cc mX7_type.ml mX7_type.rt ∈ TB ∧ (mX7_type.y.cls ≠ "java/lang/invoke/MethodHandle" ∧ mX7_type.y.cls ≠ "java/lang/invoke/VarHandle" ∧ (parseMethodDescriptor mX7_type.y.desc).map (fun d => d.parameters.length) = some 1) := ⟨TB_in (by decide +kernel) (by decide +kernel), TB_in (by decide +kernel) (by decide +kernel), TB_in (by decide +kernel) (by decide +kernel), TB_in (by decide +kernel) (by decide +kernel), by decide +kernel⟩
theorem ok_X7_end : Cond.instanceMethod mX7_end.y ∈ TB ∧ Cond.selects mX7_end.y.cls mX7_end.y mX7_end.y ∈ TB ∧ Cond.initialized mX7_end.y.cls ∈ TB ∧ Cond.code mX7_end.y mX7_end.cc mX7_end.ml mX7_end.rt ∈ TB ∧ (mX7_end.y.cls ≠ "java/lang/invoke/MethodHandle" ∧ mX7_end.y.cls ≠ "java/lang/invoke/VarHandle" ∧ (parseMethodDescriptor mX7_end.y.desc).map (fun d => d.parameters.length) = some 0) := ⟨TB_in (by decide +kernel) (by decide +kernel), TB_in (by decide +kernel) (by decide +kernel), TB_in (by decide +kernel) (by decide +kernel), TB_in (by decide +kernel) (by decide +kernel), by decide +kernel⟩
theorem ok_X7_score : Cond.instanceMethod mX7_score.y ∈ TB ∧ Cond.selects mX7_score.y.cls mX7_score.y mX7_score.y ∈ TB ∧ Cond.initialized mX7_score.y.cls ∈ TB ∧ Cond.code mX7_score.y mX7_score.cc mX7_score.ml mX7_score.rt ∈ TB ∧ (mX7_score.y.cls ≠ "java/lang/invoke/MethodHandle" ∧ mX7_score.y.cls ≠ "java/lang/invoke/VarHandle" ∧ (parseMethodDescriptor mX7_score.y.desc).map (fun d => d.parameters.length) = some 3) := ⟨TB_in (by decide +kernel) (by decide +kernel), TB_in (by decide +kernel) (by decide +kernel), TB_in (by decide +kernel) (by decide +kernel), TB_in (by decide +kernel) (by decide +kernel), by decide +kernel⟩
theorem ok_X7_gaps : Cond.instanceMethod mX7_gaps.y ∈ TB ∧ Cond.selects mX7_gaps.y.cls mX7_gaps.y mX7_gaps.y ∈ TB ∧ Cond.initialized mX7_gaps.y.cls ∈ TB ∧ Cond.code mX7_gaps.y mX7_gaps.cc mX7_gaps.ml mX7_gaps.rt ∈ TB ∧ (mX7_gaps.y.cls ≠ "java/lang/invoke/MethodHandle" ∧ mX7_gaps.y.cls ≠ "java/lang/invoke/VarHandle" ∧ (parseMethodDescriptor mX7_gaps.y.desc).map (fun d => d.parameters.length) = some 2) := ⟨TB_in (by decide +kernel) (by decide +kernel), TB_in (by decide +kernel) (by decide +kernel), TB_in (by decide +kernel) (by decide +kernel), TB_in (by decide +kernel) (by decide +kernel), by decide +kernel⟩
theorem ok_X7_settings : Cond.instanceMethod mX7_settings.y ∈ TB ∧ Cond.selects mX7_settings.y.cls mX7_settings.y mX7_settings.y ∈ TB ∧ Cond.initialized mX7_settings.y.cls ∈ TB ∧ Cond.code mX7_settings.y mX7_settings.cc mX7_settings.ml mX7_settings.rt ∈ TB ∧ (mX7_settings.y.cls ≠ "java/lang/invoke/MethodHandle" ∧ mX7_settings.y.cls ≠ "java/lang/invoke/VarHandle" ∧ (parseMethodDescriptor mX7_settings.y.desc).map (fun d => d.parameters.length) = some 3) := ⟨TB_in (by decide +kernel) (by decide +kernel), TB_in (by decide +kernel) (by decide +kernel), TB_in (by decide +kernel) (by decide +kernel), TB_in (by decide +kernel) (by decide +kernel), by decide +kernel⟩
theorem ok_X7_words : Cond.instanceMethod mX7_words.y ∈ TB ∧ Cond.selects mX7_words.y.cls mX7_words.y mX7_words.y ∈ TB ∧ Cond.initialized mX7_words.y.cls ∈ TB ∧ Cond.code mX7_words.y mX7_words.cc mX7_words.ml mX7_words.rt ∈ TB ∧ (mX7_words.y.cls ≠ "java/lang/invoke/MethodHandle" ∧ mX7_words.y.cls ≠ "java/lang/invoke/VarHandle" ∧ (parseMethodDescriptor mX7_words.y.desc).map (fun d => d.parameters.length) = some 0) := ⟨TB_in (by decide +kernel) (by decide +kernel), TB_in (by decide +kernel) (by decide +kernel), TB_in (by decide +kernel) (by decide +kernel), TB_in (by decide +kernel) (by decide +kernel), by decide +kernel⟩
theorem ok_X7_isIn : Cond.instanceMethod mX7_isIn.y ∈ TB ∧ Cond.selects mX7_isIn.y.cls mX7_isIn.y mX7_isIn.y ∈ TB ∧ Cond.initialized mX7_isIn.y.cls ∈ TB ∧ Cond.code mX7_isIn.y mX7_isIn.cc mX7_isIn.ml mX7_isIn.rt ∈ TB ∧ (mX7_isIn.y.cls ≠ "java/lang/invoke/MethodHandle" ∧ mX7_isIn.y.cls ≠ "java/lang/invoke/VarHandle" ∧ (parseMethodDescriptor mX7_isIn.y.desc).map (fun d => d.parameters.length) = some 2) := ⟨TB_in (by decide +kernel) (by decide +kernel), TB_in (by decide +kernel) (by decide +kernel), TB_in (by decide +kernel) (by decide +kernel), TB_in (by decide +kernel) (by decide +kernel), by decide +kernel⟩
theorem ok_X7_alone : Cond.instanceMethod mX7_alone.y ∈ TB ∧ Cond.selects mX7_alone.y.cls mX7_alone.y mX7_alone.y ∈ TB ∧ Cond.initialized mX7_alone.y.cls ∈ TB ∧ Cond.code mX7_alone.y mX7_alone.cc mX7_alone.ml mX7_alone.rt ∈ TB ∧ (mX7_alone.y.cls ≠ "java/lang/invoke/MethodHandle" ∧ mX7_alone.y.cls ≠ "java/lang/invoke/VarHandle" ∧ (parseMethodDescriptor mX7_alone.y.desc).map (fun d => d.parameters.length) = some 2) := ⟨TB_in (by decide +kernel) (by decide +kernel), TB_in (by decide +kernel) (by decide +kernel), TB_in (by decide +kernel) (by decide +kernel), TB_in (by decide +kernel) (by decide +kernel), by decide +kernel⟩
theorem ok_X7_weightOfSet : Cond.instanceMethod mX7_weightOfSet.y ∈ TB ∧ Cond.selects mX7_weightOfSet.y.cls mX7_weightOfSet.y mX7_weightOfSet.y ∈ TB ∧ Cond.initialized mX7_weightOfSet.y.cls ∈ TB ∧ Cond.code mX7_weightOfSet.y mX7_weightOfSet.cc mX7_weightOfSet.ml mX7_weightOfSet.rt ∈ TB ∧ (mX7_weightOfSet.y.cls ≠ "java/lang/invoke/MethodHandle" ∧ mX7_weightOfSet.y.cls ≠ "java/lang/invoke/VarHandle" ∧ (parseMethodDescriptor mX7_weightOfSet.y.desc).map (fun d => d.parameters.length) = some 1) := ⟨TB_in (by decide +kernel) (by decide +kernel), TB_in (by decide +kernel) (by decide +kernel), TB_in (by decide +kernel) (by decide +kernel), TB_in (by decide +kernel) (by decide +kernel), by decide +kernel⟩
theorem ok_X7_prepare : Cond.instanceMethod mX7_prepare.y ∈ TB ∧ Cond.selects mX7_prepare.y.cls mX7_prepare.y mX7_prepare.y ∈ TB ∧ Cond.initialized mX7_prepare.y.cls ∈ TB ∧ Cond.code mX7_prepare.y mX7_prepare.cc mX7_prepare.ml mX7_prepare.rt ∈ TB ∧ (mX7_prepare.y.cls ≠ "java/lang/invoke/MethodHandle" ∧ mX7_prepare.y.cls ≠ "java/lang/invoke/VarHandle" ∧ (parseMethodDescriptor mX7_prepare.y.desc).map (fun d => d.parameters.length) = some 0) := ⟨TB_in (by decide +kernel) (by decide +kernel), TB_in (by decide +kernel) (by decide +kernel), TB_in (by decide +kernel) (by decide +kernel), TB_in (by decide +kernel) (by decide +kernel), by decide +kernel⟩
theorem ok_X7_bothAt : Cond.instanceMethod mX7_bothAt.y ∈ TB ∧ Cond.selects mX7_bothAt.y.cls mX7_bothAt.y mX7_bothAt.y ∈ TB ∧ Cond.initialized mX7_bothAt.y.cls ∈ TB ∧ Cond.code mX7_bothAt.y mX7_bothAt.cc mX7_bothAt.ml mX7_bothAt.rt ∈ TB ∧ (mX7_bothAt.y.cls ≠ "java/lang/invoke/MethodHandle" ∧ mX7_bothAt.y.cls ≠ "java/lang/invoke/VarHandle" ∧ (parseMethodDescriptor mX7_bothAt.y.desc).map (fun d => d.parameters.length) = some 2) := ⟨TB_in (by decide +kernel) (by decide +kernel), TB_in (by decide +kernel) (by decide +kernel), TB_in (by decide +kernel) (by decide +kernel), TB_in (by decide +kernel) (by decide +kernel), by decide +kernel⟩
theorem ok_X7_entry : Cond.instanceMethod mX7_entry.y ∈ TB ∧ Cond.selects mX7_entry.y.cls mX7_entry.y mX7_entry.y ∈ TB ∧ Cond.initialized mX7_entry.y.cls ∈ TB ∧ Cond.code mX7_entry.y mX7_entry.cc mX7_entry.ml mX7_entry.rt ∈ TB ∧ (mX7_entry.y.cls ≠ "java/lang/invoke/MethodHandle" ∧ mX7_entry.y.cls ≠ "java/lang/invoke/VarHandle" ∧ (parseMethodDescriptor mX7_entry.y.desc).map (fun d => d.parameters.length) = some 3) := ⟨TB_in (by decide +kernel) (by decide +kernel), TB_in (by decide +kernel) (by decide +kernel), TB_in (by decide +kernel) (by decide +kernel), TB_in (by decide +kernel) (by decide +kernel), by decide +kernel⟩
theorem ok_X7_stepWorth : Cond.instanceMethod mX7_stepWorth.y ∈ TB ∧ Cond.selects mX7_stepWorth.y.cls mX7_stepWorth.y mX7_stepWorth.y ∈ TB ∧ Cond.initialized mX7_stepWorth.y.cls ∈ TB ∧ Cond.code mX7_stepWorth.y mX7_stepWorth.cc mX7_stepWorth.ml mX7_stepWorth.rt ∈ TB ∧ (mX7_stepWorth.y.cls ≠ "java/lang/invoke/MethodHandle" ∧ mX7_stepWorth.y.cls ≠ "java/lang/invoke/VarHandle" ∧ (parseMethodDescriptor mX7_stepWorth.y.desc).map (fun d => d.parameters.length) = some 6) := ⟨TB_in (by decide +kernel) (by decide +kernel), TB_in (by decide +kernel) (by decide +kernel), TB_in (by decide +kernel) (by decide +kernel), TB_in (by decide +kernel) (by decide +kernel), by decide +kernel⟩
theorem ok_X7_canStep : Cond.instanceMethod mX7_canStep.y ∈ TB ∧ Cond.selects mX7_canStep.y.cls mX7_canStep.y mX7_canStep.y ∈ TB ∧ Cond.initialized mX7_canStep.y.cls ∈ TB ∧ Cond.code mX7_canStep.y mX7_canStep.cc mX7_canStep.ml mX7_canStep.rt ∈ TB ∧ (mX7_canStep.y.cls ≠ "java/lang/invoke/MethodHandle" ∧ mX7_canStep.y.cls ≠ "java/lang/invoke/VarHandle" ∧ (parseMethodDescriptor mX7_canStep.y.desc).map (fun d => d.parameters.length) = some 3) := ⟨TB_in (by decide +kernel) (by decide +kernel), TB_in (by decide +kernel) (by decide +kernel), TB_in (by decide +kernel) (by decide +kernel), TB_in (by decide +kernel) (by decide +kernel), by decide +kernel⟩
theorem ok_X7_merge : Cond.instanceMethod mX7_merge.y ∈ TB ∧ Cond.selects mX7_merge.y.cls mX7_merge.y mX7_merge.y ∈ TB ∧ Cond.initialized mX7_merge.y.cls ∈ TB ∧ Cond.code mX7_merge.y mX7_merge.cc mX7_merge.ml mX7_merge.rt ∈ TB ∧ (mX7_merge.y.cls ≠ "java/lang/invoke/MethodHandle" ∧ mX7_merge.y.cls ≠ "java/lang/invoke/VarHandle" ∧ (parseMethodDescriptor mX7_merge.y.desc).map (fun d => d.parameters.length) = some 0) := ⟨TB_in (by decide +kernel) (by decide +kernel), TB_in (by decide +kernel) (by decide +kernel), TB_in (by decide +kernel) (by decide +kernel), TB_in (by decide +kernel) (by decide +kernel), by decide +kernel⟩
theorem ok_X7_walk : Cond.instanceMethod mX7_walk.y ∈ TB ∧ Cond.selects mX7_walk.y.cls mX7_walk.y mX7_walk.y ∈ TB ∧ Cond.initialized mX7_walk.y.cls ∈ TB ∧ Cond.code mX7_walk.y mX7_walk.cc mX7_walk.ml mX7_walk.rt ∈ TB ∧ (mX7_walk.y.cls ≠ "java/lang/invoke/MethodHandle" ∧ mX7_walk.y.cls ≠ "java/lang/invoke/VarHandle" ∧ (parseMethodDescriptor mX7_walk.y.desc).map (fun d => d.parameters.length) = some 2) := ⟨TB_in (by decide +kernel) (by decide +kernel), TB_in (by decide +kernel) (by decide +kernel), TB_in (by decide +kernel) (by decide +kernel), TB_in (by decide +kernel) (by decide +kernel), by decide +kernel⟩
theorem ok_X7_plainFactors : Cond.instanceMethod mX7_plainFactors.y ∈ TB ∧ Cond.selects mX7_plainFactors.y.cls mX7_plainFactors.y mX7_plainFactors.y ∈ TB ∧ Cond.initialized mX7_plainFactors.y.cls ∈ TB ∧ Cond.code mX7_plainFactors.y mX7_plainFactors.cc mX7_plainFactors.ml mX7_plainFactors.rt ∈ TB ∧ (mX7_plainFactors.y.cls ≠ "java/lang/invoke/MethodHandle" ∧ mX7_plainFactors.y.cls ≠ "java/lang/invoke/VarHandle" ∧ (parseMethodDescriptor mX7_plainFactors.y.desc).map (fun d => d.parameters.length) = some 0) := ⟨TB_in (by decide +kernel) (by decide +kernel), TB_in (by decide +kernel) (by decide +kernel), TB_in (by decide +kernel) (by decide +kernel), TB_in (by decide +kernel) (by decide +kernel), by decide +kernel⟩
theorem ok_X7_areTwo : Cond.instanceMethod mX7_areTwo.y ∈ TB ∧ Cond.selects mX7_areTwo.y.cls mX7_areTwo.y mX7_areTwo.y ∈ TB ∧ Cond.initialized mX7_areTwo.y.cls ∈ TB ∧ Cond.code mX7_areTwo.y mX7_areTwo.cc mX7_areTwo.ml mX7_areTwo.rt ∈ TB ∧ (mX7_areTwo.y.cls ≠ "java/lang/invoke/MethodHandle" ∧ mX7_areTwo.y.cls ≠ "java/lang/invoke/VarHandle" ∧ (parseMethodDescriptor mX7_areTwo.y.desc).map (fun d => d.parameters.length) = some 2) := ⟨TB_in (by decide +kernel) (by decide +kernel), TB_in (by decide +kernel) (by decide +kernel), TB_in (by decide +kernel) (by decide +kernel), TB_in (by decide +kernel) (by decide +kernel), by decide +kernel⟩
theorem ok_X7_mergeWords : Cond.instanceMethod mX7_mergeWords.y ∈ TB ∧ Cond.selects mX7_mergeWords.y.cls mX7_mergeWords.y mX7_mergeWords.y ∈ TB ∧ Cond.initialized mX7_mergeWords.y.cls ∈ TB ∧ Cond.code mX7_mergeWords.y mX7_mergeWords.cc mX7_mergeWords.ml mX7_mergeWords.rt ∈ TB ∧ (mX7_mergeWords.y.cls ≠ "java/lang/invoke/MethodHandle" ∧ mX7_mergeWords.y.cls ≠ "java/lang/invoke/VarHandle" ∧ (parseMethodDescriptor mX7_mergeWords.y.desc).map (fun d => d.parameters.length) = some 2) := ⟨TB_in (by decide +kernel) (by decide +kernel), TB_in (by decide +kernel) (by decide +kernel), TB_in (by decide +kernel) (by decide +kernel), TB_in (by decide +kernel) (by decide +kernel), by decide +kernel⟩
theorem ok_X7_pair : Cond.instanceMethod mX7_pair.y ∈ TB ∧ Cond.selects mX7_pair.y.cls mX7_pair.y mX7_pair.y ∈ TB ∧ Cond.initialized mX7_pair.y.cls ∈ TB ∧ Cond.code mX7_pair.y mX7_pair.cc mX7_pair.ml mX7_pair.rt ∈ TB ∧ (mX7_pair.y.cls ≠ "java/lang/invoke/MethodHandle" ∧ mX7_pair.y.cls ≠ "java/lang/invoke/VarHandle" ∧ (parseMethodDescriptor mX7_pair.y.desc).map (fun d => d.parameters.length) = some 2) := ⟨TB_in (by decide +kernel) (by decide +kernel), TB_in (by decide +kernel) (by decide +kernel), TB_in (by decide +kernel) (by decide +kernel), TB_in (by decide +kernel) (by decide +kernel), by decide +kernel⟩
theorem ok_X7_shared : Cond.instanceMethod mX7_shared.y ∈ TB ∧ Cond.selects mX7_shared.y.cls mX7_shared.y mX7_shared.y ∈ TB ∧ Cond.initialized mX7_shared.y.cls ∈ TB ∧ Cond.code mX7_shared.y mX7_shared.cc mX7_shared.ml mX7_shared.rt ∈ TB ∧ (mX7_shared.y.cls ≠ "java/lang/invoke/MethodHandle" ∧ mX7_shared.y.cls ≠ "java/lang/invoke/VarHandle" ∧ (parseMethodDescriptor mX7_shared.y.desc).map (fun d => d.parameters.length) = some 2) := ⟨TB_in (by decide +kernel) (by decide +kernel), TB_in (by decide +kernel) (by decide +kernel), TB_in (by decide +kernel) (by decide +kernel), TB_in (by decide +kernel) (by decide +kernel), by decide +kernel⟩
theorem ok_X7_timesIn : Cond.instanceMethod mX7_timesIn.y ∈ TB ∧ Cond.selects mX7_timesIn.y.cls mX7_timesIn.y mX7_timesIn.y ∈ TB ∧ Cond.initialized mX7_timesIn.y.cls ∈ TB ∧ Cond.code mX7_timesIn.y mX7_timesIn.cc mX7_timesIn.ml mX7_timesIn.rt ∈ TB ∧ (mX7_timesIn.y.cls ≠ "java/lang/invoke/MethodHandle" ∧ mX7_timesIn.y.cls ≠ "java/lang/invoke/VarHandle" ∧ (parseMethodDescriptor mX7_timesIn.y.desc).map (fun d => d.parameters.length) = some 2) := ⟨TB_in (by decide +kernel) (by decide +kernel), TB_in (by decide +kernel) (by decide +kernel), TB_in (by decide +kernel) (by decide +kernel), TB_in (by decide +kernel) (by decide +kernel), by decide +kernel⟩
theorem ok_X7_distance : Cond.instanceMethod mX7_distance.y ∈ TB ∧ Cond.selects mX7_distance.y.cls mX7_distance.y mX7_distance.y ∈ TB ∧ Cond.initialized mX7_distance.y.cls ∈ TB ∧ Cond.code mX7_distance.y mX7_distance.cc mX7_distance.ml mX7_distance.rt ∈ TB ∧ (mX7_distance.y.cls ≠ "java/lang/invoke/MethodHandle" ∧ mX7_distance.y.cls ≠ "java/lang/invoke/VarHandle" ∧ (parseMethodDescriptor mX7_distance.y.desc).map (fun d => d.parameters.length) = some 2) := ⟨TB_in (by decide +kernel) (by decide +kernel), TB_in (by decide +kernel) (by decide +kernel), TB_in (by decide +kernel) (by decide +kernel), TB_in (by decide +kernel) (by decide +kernel), by decide +kernel⟩
theorem ok_X7_countOf : Cond.instanceMethod mX7_countOf.y ∈ TB ∧ Cond.selects mX7_countOf.y.cls mX7_countOf.y mX7_countOf.y ∈ TB ∧ Cond.initialized mX7_countOf.y.cls ∈ TB ∧ Cond.code mX7_countOf.y mX7_countOf.cc mX7_countOf.ml mX7_countOf.rt ∈ TB ∧ (mX7_countOf.y.cls ≠ "java/lang/invoke/MethodHandle" ∧ mX7_countOf.y.cls ≠ "java/lang/invoke/VarHandle" ∧ (parseMethodDescriptor mX7_countOf.y.desc).map (fun d => d.parameters.length) = some 1) := ⟨TB_in (by decide +kernel) (by decide +kernel), TB_in (by decide +kernel) (by decide +kernel), TB_in (by decide +kernel) (by decide +kernel), TB_in (by decide +kernel) (by decide +kernel), by decide +kernel⟩
theorem ok_X7_sumOf : Cond.instanceMethod mX7_sumOf.y ∈ TB ∧ Cond.selects mX7_sumOf.y.cls mX7_sumOf.y mX7_sumOf.y ∈ TB ∧ Cond.initialized mX7_sumOf.y.cls ∈ TB ∧ Cond.code mX7_sumOf.y mX7_sumOf.cc mX7_sumOf.ml mX7_sumOf.rt ∈ TB ∧ (mX7_sumOf.y.cls ≠ "java/lang/invoke/MethodHandle" ∧ mX7_sumOf.y.cls ≠ "java/lang/invoke/VarHandle" ∧ (parseMethodDescriptor mX7_sumOf.y.desc).map (fun d => d.parameters.length) = some 2) := ⟨TB_in (by decide +kernel) (by decide +kernel), TB_in (by decide +kernel) (by decide +kernel), TB_in (by decide +kernel) (by decide +kernel), TB_in (by decide +kernel) (by decide +kernel), by decide +kernel⟩
theorem ok_X7_spansOf : Cond.instanceMethod mX7_spansOf.y ∈ TB ∧ Cond.selects mX7_spansOf.y.cls mX7_spansOf.y mX7_spansOf.y ∈ TB ∧ Cond.initialized mX7_spansOf.y.cls ∈ TB ∧ Cond.code mX7_spansOf.y mX7_spansOf.cc mX7_spansOf.ml mX7_spansOf.rt ∈ TB ∧ (mX7_spansOf.y.cls ≠ "java/lang/invoke/MethodHandle" ∧ mX7_spansOf.y.cls ≠ "java/lang/invoke/VarHandle" ∧ (parseMethodDescriptor mX7_spansOf.y.desc).map (fun d => d.parameters.length) = some 2) := ⟨TB_in (by decide +kernel) (by decide +kernel), TB_in (by decide +kernel) (by decide +kernel), TB_in (by decide +kernel) (by decide +kernel), TB_in (by decide +kernel) (by decide +kernel), by decide +kernel⟩
theorem ok_X7_valueOf : Cond.instanceMethod mX7_valueOf.y ∈ TB ∧ Cond.selects mX7_valueOf.y.cls mX7_valueOf.y mX7_valueOf.y ∈ TB ∧ Cond.initialized mX7_valueOf.y.cls ∈ TB ∧ Cond.code mX7_valueOf.y mX7_valueOf.cc mX7_valueOf.ml mX7_valueOf.rt ∈ TB ∧ (mX7_valueOf.y.cls ≠ "java/lang/invoke/MethodHandle" ∧ mX7_valueOf.y.cls ≠ "java/lang/invoke/VarHandle" ∧ (parseMethodDescriptor mX7_valueOf.y.desc).map (fun d => d.parameters.length) = some 4) := ⟨TB_in (by decide +kernel) (by decide +kernel), TB_in (by decide +kernel) (by decide +kernel), TB_in (by decide +kernel) (by decide +kernel), TB_in (by decide +kernel) (by decide +kernel), by decide +kernel⟩
theorem ok_X7_join : Cond.instanceMethod mX7_join.y ∈ TB ∧ Cond.selects mX7_join.y.cls mX7_join.y mX7_join.y ∈ TB ∧ Cond.initialized mX7_join.y.cls ∈ TB ∧ Cond.code mX7_join.y mX7_join.cc mX7_join.ml mX7_join.rt ∈ TB ∧ (mX7_join.y.cls ≠ "java/lang/invoke/MethodHandle" ∧ mX7_join.y.cls ≠ "java/lang/invoke/VarHandle" ∧ (parseMethodDescriptor mX7_join.y.desc).map (fun d => d.parameters.length) = some 1) := ⟨TB_in (by decide +kernel) (by decide +kernel), TB_in (by decide +kernel) (by decide +kernel), TB_in (by decide +kernel) (by decide +kernel), TB_in (by decide +kernel) (by decide +kernel), by decide +kernel⟩
theorem ok_X7_weigh : Cond.instanceMethod mX7_weigh.y ∈ TB ∧ Cond.selects mX7_weigh.y.cls mX7_weigh.y mX7_weigh.y ∈ TB ∧ Cond.initialized mX7_weigh.y.cls ∈ TB ∧ Cond.code mX7_weigh.y mX7_weigh.cc mX7_weigh.ml mX7_weigh.rt ∈ TB ∧ (mX7_weigh.y.cls ≠ "java/lang/invoke/MethodHandle" ∧ mX7_weigh.y.cls ≠ "java/lang/invoke/VarHandle" ∧ (parseMethodDescriptor mX7_weigh.y.desc).map (fun d => d.parameters.length) = some 0) := ⟨TB_in (by decide +kernel) (by decide +kernel), TB_in (by decide +kernel) (by decide +kernel), TB_in (by decide +kernel) (by decide +kernel), TB_in (by decide +kernel) (by decide +kernel), by decide +kernel⟩
theorem ok_X7_takeP : Cond.instanceMethod mX7_takeP.y ∈ TB ∧ Cond.selects mX7_takeP.y.cls mX7_takeP.y mX7_takeP.y ∈ TB ∧ Cond.initialized mX7_takeP.y.cls ∈ TB ∧ Cond.code mX7_takeP.y mX7_takeP.cc mX7_takeP.ml mX7_takeP.rt ∈ TB ∧ (mX7_takeP.y.cls ≠ "java/lang/invoke/MethodHandle" ∧ mX7_takeP.y.cls ≠ "java/lang/invoke/VarHandle" ∧ (parseMethodDescriptor mX7_takeP.y.desc).map (fun d => d.parameters.length) = some 1) := ⟨TB_in (by decide +kernel) (by decide +kernel), TB_in (by decide +kernel) (by decide +kernel), TB_in (by decide +kernel) (by decide +kernel), TB_in (by decide +kernel) (by decide +kernel), by decide +kernel⟩
theorem ok_X7_takeQ : Cond.instanceMethod mX7_takeQ.y ∈ TB ∧ Cond.selects mX7_takeQ.y.cls mX7_takeQ.y mX7_takeQ.y ∈ TB ∧ Cond.initialized mX7_takeQ.y.cls ∈ TB ∧ Cond.code mX7_takeQ.y mX7_takeQ.cc mX7_takeQ.ml mX7_takeQ.rt ∈ TB ∧ (mX7_takeQ.y.cls ≠ "java/lang/invoke/MethodHandle" ∧ mX7_takeQ.y.cls ≠ "java/lang/invoke/VarHandle" ∧ (parseMethodDescriptor mX7_takeQ.y.desc).map (fun d => d.parameters.length) = some 1) := ⟨TB_in (by decide +kernel) (by decide +kernel), TB_in (by decide +kernel) (by decide +kernel), TB_in (by decide +kernel) (by decide +kernel), TB_in (by decide +kernel) (by decide +kernel), by decide +kernel⟩
theorem ok_X7_useWeights : Cond.instanceMethod mX7_useWeights.y ∈ TB ∧ Cond.selects mX7_useWeights.y.cls mX7_useWeights.y mX7_useWeights.y ∈ TB ∧ Cond.initialized mX7_useWeights.y.cls ∈ TB ∧ Cond.code mX7_useWeights.y mX7_useWeights.cc mX7_useWeights.ml mX7_useWeights.rt ∈ TB ∧ (mX7_useWeights.y.cls ≠ "java/lang/invoke/MethodHandle" ∧ mX7_useWeights.y.cls ≠ "java/lang/invoke/VarHandle" ∧ (parseMethodDescriptor mX7_useWeights.y.desc).map (fun d => d.parameters.length) = some 0) := ⟨TB_in (by decide +kernel) (by decide +kernel), TB_in (by decide +kernel) (by decide +kernel), TB_in (by decide +kernel) (by decide +kernel), TB_in (by decide +kernel) (by decide +kernel), by decide +kernel⟩
theorem ok_X7_align : Cond.instanceMethod mX7_align.y ∈ TB ∧ Cond.selects mX7_align.y.cls mX7_align.y mX7_align.y ∈ TB ∧ Cond.initialized mX7_align.y.cls ∈ TB ∧ Cond.code mX7_align.y mX7_align.cc mX7_align.ml mX7_align.rt ∈ TB ∧ (mX7_align.y.cls ≠ "java/lang/invoke/MethodHandle" ∧ mX7_align.y.cls ≠ "java/lang/invoke/VarHandle" ∧ (parseMethodDescriptor mX7_align.y.desc).map (fun d => d.parameters.length) = some 0) := ⟨TB_in (by decide +kernel) (by decide +kernel), TB_in (by decide +kernel) (by decide +kernel), TB_in (by decide +kernel) (by decide +kernel), TB_in (by decide +kernel) (by decide +kernel), by decide +kernel⟩
theorem ok_X7_columns : Cond.instanceMethod mX7_columns.y ∈ TB ∧ Cond.selects mX7_columns.y.cls mX7_columns.y mX7_columns.y ∈ TB ∧ Cond.initialized mX7_columns.y.cls ∈ TB ∧ Cond.code mX7_columns.y mX7_columns.cc mX7_columns.ml mX7_columns.rt ∈ TB ∧ (mX7_columns.y.cls ≠ "java/lang/invoke/MethodHandle" ∧ mX7_columns.y.cls ≠ "java/lang/invoke/VarHandle" ∧ (parseMethodDescriptor mX7_columns.y.desc).map (fun d => d.parameters.length) = some 0) := ⟨TB_in (by decide +kernel) (by decide +kernel), TB_in (by decide +kernel) (by decide +kernel), TB_in (by decide +kernel) (by decide +kernel), TB_in (by decide +kernel) (by decide +kernel), by decide +kernel⟩
theorem ok_X7_at : Cond.instanceMethod mX7_at.y ∈ TB ∧ Cond.selects mX7_at.y.cls mX7_at.y mX7_at.y ∈ TB ∧ Cond.initialized mX7_at.y.cls ∈ TB ∧ Cond.code mX7_at.y mX7_at.cc mX7_at.ml mX7_at.rt ∈ TB ∧ (mX7_at.y.cls ≠ "java/lang/invoke/MethodHandle" ∧ mX7_at.y.cls ≠ "java/lang/invoke/VarHandle" ∧ (parseMethodDescriptor mX7_at.y.desc).map (fun d => d.parameters.length) = some 2) := ⟨TB_in (by decide +kernel) (by decide +kernel), TB_in (by decide +kernel) (by decide +kernel), TB_in (by decide +kernel) (by decide +kernel), TB_in (by decide +kernel) (by decide +kernel), by decide +kernel⟩
theorem ok_X7_mark : Cond.instanceMethod mX7_mark.y ∈ TB ∧ Cond.selects mX7_mark.y.cls mX7_mark.y mX7_mark.y ∈ TB ∧ Cond.initialized mX7_mark.y.cls ∈ TB ∧ Cond.code mX7_mark.y mX7_mark.cc mX7_mark.ml mX7_mark.rt ∈ TB ∧ (mX7_mark.y.cls ≠ "java/lang/invoke/MethodHandle" ∧ mX7_mark.y.cls ≠ "java/lang/invoke/VarHandle" ∧ (parseMethodDescriptor mX7_mark.y.desc).map (fun d => d.parameters.length) = some 1) := ⟨TB_in (by decide +kernel) (by decide +kernel), TB_in (by decide +kernel) (by decide +kernel), TB_in (by decide +kernel) (by decide +kernel), TB_in (by decide +kernel) (by decide +kernel), by decide +kernel⟩
theorem ok_X7_isInner : Cond.instanceMethod mX7_isInner.y ∈ TB ∧ Cond.selects mX7_isInner.y.cls mX7_isInner.y mX7_isInner.y ∈ TB ∧ Cond.initialized mX7_isInner.y.cls ∈ TB ∧ Cond.code mX7_isInner.y mX7_isInner.cc mX7_isInner.ml mX7_isInner.rt ∈ TB ∧ (mX7_isInner.y.cls ≠ "java/lang/invoke/MethodHandle" ∧ mX7_isInner.y.cls ≠ "java/lang/invoke/VarHandle" ∧ (parseMethodDescriptor mX7_isInner.y.desc).map (fun d => d.parameters.length) = some 1) := ⟨TB_in (by decide +kernel) (by decide +kernel), TB_in (by decide +kernel) (by decide +kernel), TB_in (by decide +kernel) (by decide +kernel), TB_in (by decide +kernel) (by decide +kernel), by decide +kernel⟩
theorem ok_X7_child : Cond.instanceMethod mX7_child.y ∈ TB ∧ Cond.selects mX7_child.y.cls mX7_child.y mX7_child.y ∈ TB ∧ Cond.initialized mX7_child.y.cls ∈ TB ∧ Cond.code mX7_child.y mX7_child.cc mX7_child.ml mX7_child.rt ∈ TB ∧ (mX7_child.y.cls ≠ "java/lang/invoke/MethodHandle" ∧ mX7_child.y.cls ≠ "java/lang/invoke/VarHandle" ∧ (parseMethodDescriptor mX7_child.y.desc).map (fun d => d.parameters.length) = some 2) := ⟨TB_in (by decide +kernel) (by decide +kernel), TB_in (by decide +kernel) (by decide +kernel), TB_in (by decide +kernel) (by decide +kernel), TB_in (by decide +kernel) (by decide +kernel), by decide +kernel⟩
theorem ok_X7_worth : Cond.instanceMethod mX7_worth.y ∈ TB ∧ Cond.selects mX7_worth.y.cls mX7_worth.y mX7_worth.y ∈ TB ∧ Cond.initialized mX7_worth.y.cls ∈ TB ∧ Cond.code mX7_worth.y mX7_worth.cc mX7_worth.ml mX7_worth.rt ∈ TB ∧ (mX7_worth.y.cls ≠ "java/lang/invoke/MethodHandle" ∧ mX7_worth.y.cls ≠ "java/lang/invoke/VarHandle" ∧ (parseMethodDescriptor mX7_worth.y.desc).map (fun d => d.parameters.length) = some 1) := ⟨TB_in (by decide +kernel) (by decide +kernel), TB_in (by decide +kernel) (by decide +kernel), TB_in (by decide +kernel) (by decide +kernel), TB_in (by decide +kernel) (by decide +kernel), by decide +kernel⟩
theorem ok_X7_weight : Cond.instanceMethod mX7_weight.y ∈ TB ∧ Cond.selects mX7_weight.y.cls mX7_weight.y mX7_weight.y ∈ TB ∧ Cond.initialized mX7_weight.y.cls ∈ TB ∧ Cond.code mX7_weight.y mX7_weight.cc mX7_weight.ml mX7_weight.rt ∈ TB ∧ (mX7_weight.y.cls ≠ "java/lang/invoke/MethodHandle" ∧ mX7_weight.y.cls ≠ "java/lang/invoke/VarHandle" ∧ (parseMethodDescriptor mX7_weight.y.desc).map (fun d => d.parameters.length) = some 1) := ⟨TB_in (by decide +kernel) (by decide +kernel), TB_in (by decide +kernel) (by decide +kernel), TB_in (by decide +kernel) (by decide +kernel), TB_in (by decide +kernel) (by decide +kernel), by decide +kernel⟩
theorem ok_X7_pairTotal : Cond.instanceMethod mX7_pairTotal.y ∈ TB ∧ Cond.selects mX7_pairTotal.y.cls mX7_pairTotal.y mX7_pairTotal.y ∈ TB ∧ Cond.initialized mX7_pairTotal.y.cls ∈ TB ∧ Cond.code mX7_pairTotal.y mX7_pairTotal.cc mX7_pairTotal.ml mX7_pairTotal.rt ∈ TB ∧ (mX7_pairTotal.y.cls ≠ "java/lang/invoke/MethodHandle" ∧ mX7_pairTotal.y.cls ≠ "java/lang/invoke/VarHandle" ∧ (parseMethodDescriptor mX7_pairTotal.y.desc).map (fun d => d.parameters.length) = some 4) := ⟨TB_in (by decide +kernel) (by decide +kernel), TB_in (by decide +kernel) (by decide +kernel), TB_in (by decide +kernel) (by decide +kernel), TB_in (by decide +kernel) (by decide +kernel), by decide +kernel⟩
theorem ok_X7_totalOf : Cond.instanceMethod mX7_totalOf.y ∈ TB ∧ Cond.selects mX7_totalOf.y.cls mX7_totalOf.y mX7_totalOf.y ∈ TB ∧ Cond.initialized mX7_totalOf.y.cls ∈ TB ∧ Cond.code mX7_totalOf.y mX7_totalOf.cc mX7_totalOf.ml mX7_totalOf.rt ∈ TB ∧ (mX7_totalOf.y.cls ≠ "java/lang/invoke/MethodHandle" ∧ mX7_totalOf.y.cls ≠ "java/lang/invoke/VarHandle" ∧ (parseMethodDescriptor mX7_totalOf.y.desc).map (fun d => d.parameters.length) = some 2) := ⟨TB_in (by decide +kernel) (by decide +kernel), TB_in (by decide +kernel) (by decide +kernel), TB_in (by decide +kernel) (by decide +kernel), TB_in (by decide +kernel) (by decide +kernel), by decide +kernel⟩
theorem ok_X7_total : Cond.instanceMethod mX7_total.y ∈ TB ∧ Cond.selects mX7_total.y.cls mX7_total.y mX7_total.y ∈ TB ∧ Cond.initialized mX7_total.y.cls ∈ TB ∧ Cond.code mX7_total.y mX7_total.cc mX7_total.ml mX7_total.rt ∈ TB ∧ (mX7_total.y.cls ≠ "java/lang/invoke/MethodHandle" ∧ mX7_total.y.cls ≠ "java/lang/invoke/VarHandle" ∧ (parseMethodDescriptor mX7_total.y.desc).map (fun d => d.parameters.length) = some 0) := ⟨TB_in (by decide +kernel) (by decide +kernel), TB_in (by decide +kernel) (by decide +kernel), TB_in (by decide +kernel) (by decide +kernel), TB_in (by decide +kernel) (by decide +kernel), by decide +kernel⟩
theorem ok_X7_hasLetter : Cond.instanceMethod mX7_hasLetter.y ∈ TB ∧ Cond.selects mX7_hasLetter.y.cls mX7_hasLetter.y mX7_hasLetter.y ∈ TB ∧ Cond.initialized mX7_hasLetter.y.cls ∈ TB ∧ Cond.code mX7_hasLetter.y mX7_hasLetter.cc mX7_hasLetter.ml mX7_hasLetter.rt ∈ TB ∧ (mX7_hasLetter.y.cls ≠ "java/lang/invoke/MethodHandle" ∧ mX7_hasLetter.y.cls ≠ "java/lang/invoke/VarHandle" ∧ (parseMethodDescriptor mX7_hasLetter.y.desc).map (fun d => d.parameters.length) = some 2) := ⟨TB_in (by decide +kernel) (by decide +kernel), TB_in (by decide +kernel) (by decide +kernel), TB_in (by decide +kernel) (by decide +kernel), TB_in (by decide +kernel) (by decide +kernel), by decide +kernel⟩
theorem ok_X7_refine : Cond.instanceMethod mX7_refine.y ∈ TB ∧ Cond.selects mX7_refine.y.cls mX7_refine.y mX7_refine.y ∈ TB ∧ Cond.initialized mX7_refine.y.cls ∈ TB ∧ Cond.code mX7_refine.y mX7_refine.cc mX7_refine.ml mX7_refine.rt ∈ TB ∧ (mX7_refine.y.cls ≠ "java/lang/invoke/MethodHandle" ∧ mX7_refine.y.cls ≠ "java/lang/invoke/VarHandle" ∧ (parseMethodDescriptor mX7_refine.y.desc).map (fun d => d.parameters.length) = some 1) := ⟨TB_in (by decide +kernel) (by decide +kernel), TB_in (by decide +kernel) (by decide +kernel), TB_in (by decide +kernel) (by decide +kernel), TB_in (by decide +kernel) (by decide +kernel), by decide +kernel⟩
theorem ok_X7_polish : Cond.instanceMethod mX7_polish.y ∈ TB ∧ Cond.selects mX7_polish.y.cls mX7_polish.y mX7_polish.y ∈ TB ∧ Cond.initialized mX7_polish.y.cls ∈ TB ∧ Cond.code mX7_polish.y mX7_polish.cc mX7_polish.ml mX7_polish.rt ∈ TB ∧ (mX7_polish.y.cls ≠ "java/lang/invoke/MethodHandle" ∧ mX7_polish.y.cls ≠ "java/lang/invoke/VarHandle" ∧ (parseMethodDescriptor mX7_polish.y.desc).map (fun d => d.parameters.length) = some 0) := ⟨TB_in (by decide +kernel) (by decide +kernel), TB_in (by decide +kernel) (by decide +kernel), TB_in (by decide +kernel) (by decide +kernel), TB_in (by decide +kernel) (by decide +kernel), by decide +kernel⟩
theorem ok_X1_unite_X4_read : okV mX1_unite mX4_read 34 3 := ⟨TB_in (by decide +kernel) (by decide +kernel), ok_X4_read.1, ok_X4_read.2.1, ok_X4_read.2.2.1, ok_X4_read.2.2.2.1, ok_X4_read.2.2.2.2, by decide +kernel, by decide +kernel⟩
theorem ok_X1_unite_X1_fill : okV mX1_unite mX1_fill 53 2 := ⟨TB_in (by decide +kernel) (by decide +kernel), ok_X1_fill.1, ok_X1_fill.2.1, ok_X1_fill.2.2.1, ok_X1_fill.2.2.2.1, ok_X1_fill.2.2.2.2, by decide +kernel, by decide +kernel⟩
theorem ok_X1_unite_X1_walk : okV mX1_unite mX1_walk 57 0 := ⟨TB_in (by decide +kernel) (by decide +kernel), ok_X1_walk.1, ok_X1_walk.2.1, ok_X1_walk.2.2.1, ok_X1_walk.2.2.2.1, ok_X1_walk.2.2.2.2, by decide +kernel, by decide +kernel⟩
theorem ok_X1_unite_X3_spread : okV mX1_unite mX3_spread 63 4 := ⟨TB_in (by decide +kernel) (by decide +kernel), ok_X3_spread.1, ok_X3_spread.2.1, ok_X3_spread.2.2.1, ok_X3_spread.2.2.2.1, ok_X3_spread.2.2.2.2, by decide +kernel, by decide +kernel⟩
theorem ok_X1_fill_X1_look : okV mX1_fill mX1_look 69 2 := ⟨TB_in (by decide +kernel) (by decide +kernel), ok_X1_look.1, ok_X1_look.2.1, ok_X1_look.2.2.1, ok_X1_look.2.2.2.1, ok_X1_look.2.2.2.2, by decide +kernel, by decide +kernel⟩
theorem ok_X1_fill_X1_place : okV mX1_fill mX1_place 72 2 := ⟨TB_in (by decide +kernel) (by decide +kernel), ok_X1_place.1, ok_X1_place.2.1, ok_X1_place.2.2.1, ok_X1_place.2.2.2.1, ok_X1_place.2.2.2.2, by decide +kernel, by decide +kernel⟩
theorem ok_X1_fill_X1_choose : okV mX1_fill mX1_choose 76 1 := ⟨TB_in (by decide +kernel) (by decide +kernel), ok_X1_choose.1, ok_X1_choose.2.1, ok_X1_choose.2.2.1, ok_X1_choose.2.2.2.1, ok_X1_choose.2.2.2.2, by decide +kernel, by decide +kernel⟩
theorem ok_X1_fill_X1_worthAfter : okV mX1_fill mX1_worthAfter 80 2 := ⟨TB_in (by decide +kernel) (by decide +kernel), ok_X1_worthAfter.1, ok_X1_worthAfter.2.1, ok_X1_worthAfter.2.2.1, ok_X1_worthAfter.2.2.2.1, ok_X1_worthAfter.2.2.2.2, by decide +kernel, by decide +kernel⟩
theorem ok_X1_walk_X1_look : okV mX1_walk mX1_look 69 2 := ⟨TB_in (by decide +kernel) (by decide +kernel), ok_X1_look.1, ok_X1_look.2.1, ok_X1_look.2.2.1, ok_X1_look.2.2.2.1, ok_X1_look.2.2.2.2, by decide +kernel, by decide +kernel⟩
theorem ok_X1_walk_X1_choose : okV mX1_walk mX1_choose 76 1 := ⟨TB_in (by decide +kernel) (by decide +kernel), ok_X1_choose.1, ok_X1_choose.2.1, ok_X1_choose.2.2.1, ok_X1_choose.2.2.2.1, ok_X1_choose.2.2.2.2, by decide +kernel, by decide +kernel⟩
theorem ok_X1_look_X1_place : okV mX1_look mX1_place 72 2 := ⟨TB_in (by decide +kernel) (by decide +kernel), ok_X1_place.1, ok_X1_place.2.1, ok_X1_place.2.2.1, ok_X1_place.2.2.2.1, ok_X1_place.2.2.2.2, by decide +kernel, by decide +kernel⟩
theorem ok_X1_look_X1_match : okV mX1_look mX1_match 93 2 := ⟨TB_in (by decide +kernel) (by decide +kernel), ok_X1_match.1, ok_X1_match.2.1, ok_X1_match.2.2.1, ok_X1_match.2.2.2.1, ok_X1_match.2.2.2.2, by decide +kernel, by decide +kernel⟩
theorem ok_X1_choose_X1_worthAfter : okV mX1_choose mX1_worthAfter 80 2 := ⟨TB_in (by decide +kernel) (by decide +kernel), ok_X1_worthAfter.1, ok_X1_worthAfter.2.1, ok_X1_worthAfter.2.2.1, ok_X1_worthAfter.2.2.2.1, ok_X1_worthAfter.2.2.2.2, by decide +kernel, by decide +kernel⟩
theorem ok_X2_tuplesSharedWith_X2_timesOfTuple : okV mX2_tuplesSharedWith mX2_timesOfTuple 25 2 := ⟨TB_in (by decide +kernel) (by decide +kernel), ok_X2_timesOfTuple.1, ok_X2_timesOfTuple.2.1, ok_X2_timesOfTuple.2.2.1, ok_X2_timesOfTuple.2.2.2.1, ok_X2_timesOfTuple.2.2.2.2, by decide +kernel, by decide +kernel⟩
theorem ok_X3_copyWithout_X3_hasLetter : okV mX3_copyWithout mX3_hasLetter 24 2 := ⟨TB_in (by decide +kernel) (by decide +kernel), ok_X3_hasLetter.1, ok_X3_hasLetter.2.1, ok_X3_hasLetter.2.2.1, ok_X3_hasLetter.2.2.2.1, ok_X3_hasLetter.2.2.2.2, by decide +kernel, by decide +kernel⟩
theorem ok_X3_spread_X2_spread : okV mX3_spread mX2_spread 35 3 := ⟨TB_in (by decide +kernel) (by decide +kernel), ok_X2_spread.1, ok_X2_spread.2.1, ok_X2_spread.2.2.1, ok_X2_spread.2.2.2.1, ok_X2_spread.2.2.2.2, by decide +kernel, by decide +kernel⟩
theorem ok_X3_sumOverPairs_X2_scoreBeside : okV mX3_sumOverPairs mX2_scoreBeside 50 2 := ⟨TB_in (by decide +kernel) (by decide +kernel), ok_X2_scoreBeside.1, ok_X2_scoreBeside.2.1, ok_X2_scoreBeside.2.2.1, ok_X2_scoreBeside.2.2.2.1, ok_X2_scoreBeside.2.2.2.2, by decide +kernel, by decide +kernel⟩
theorem ok_X4_read_X4_readRow : okV mX4_read mX4_readRow 38 2 := ⟨TB_in (by decide +kernel) (by decide +kernel), ok_X4_readRow.1, ok_X4_readRow.2.1, ok_X4_readRow.2.2.1, ok_X4_readRow.2.2.2.1, ok_X4_readRow.2.2.2.2, by decide +kernel, by decide +kernel⟩
theorem ok_X5_setDistance_X5_setBetween : okV mX5_setDistance mX5_setBetween 52 3 := ⟨TB_in (by decide +kernel) (by decide +kernel), ok_X5_setBetween.1, ok_X5_setBetween.2.1, ok_X5_setBetween.2.2.1, ok_X5_setBetween.2.2.2.1, ok_X5_setBetween.2.2.2.2, by decide +kernel, by decide +kernel⟩
theorem ok_X5_grow_X5_isOpen : okV mX5_grow mX5_isOpen 56 1 := ⟨TB_in (by decide +kernel) (by decide +kernel), ok_X5_isOpen.1, ok_X5_isOpen.2.1, ok_X5_isOpen.2.2.1, ok_X5_isOpen.2.2.2.1, ok_X5_isOpen.2.2.2.2, by decide +kernel, by decide +kernel⟩
theorem ok_X5_grow_X5_isNearer : okV mX5_grow mX5_isNearer 60 4 := ⟨TB_in (by decide +kernel) (by decide +kernel), ok_X5_isNearer.1, ok_X5_isNearer.2.1, ok_X5_isNearer.2.2.1, ok_X5_isNearer.2.2.2.1, ok_X5_isNearer.2.2.2.2, by decide +kernel, by decide +kernel⟩
theorem ok_X5_grow_X5_join : okV mX5_grow mX5_join 64 2 := ⟨TB_in (by decide +kernel) (by decide +kernel), ok_X5_join.1, ok_X5_join.2.1, ok_X5_join.2.2.1, ok_X5_join.2.2.2.1, ok_X5_join.2.2.2.2, by decide +kernel, by decide +kernel⟩
theorem ok_X5_isNearer_X5_numerator : okV mX5_isNearer mX5_numerator 68 2 := ⟨TB_in (by decide +kernel) (by decide +kernel), ok_X5_numerator.1, ok_X5_numerator.2.1, ok_X5_numerator.2.2.1, ok_X5_numerator.2.2.2.1, ok_X5_numerator.2.2.2.2, by decide +kernel, by decide +kernel⟩
theorem ok_X5_isNearer_X5_denominator : okV mX5_isNearer mX5_denominator 72 2 := ⟨TB_in (by decide +kernel) (by decide +kernel), ok_X5_denominator.1, ok_X5_denominator.2.1, ok_X5_denominator.2.2.1, ok_X5_denominator.2.2.2.1, ok_X5_denominator.2.2.2.2, by decide +kernel, by decide +kernel⟩
theorem ok_X5_numerator_X5_isOpen : okV mX5_numerator mX5_isOpen 56 1 := ⟨TB_in (by decide +kernel) (by decide +kernel), ok_X5_isOpen.1, ok_X5_isOpen.2.1, ok_X5_isOpen.2.2.1, ok_X5_isOpen.2.2.2.1, ok_X5_isOpen.2.2.2.2, by decide +kernel, by decide +kernel⟩
theorem ok_X5_join_X5_numerator : okV mX5_join mX5_numerator 68 2 := ⟨TB_in (by decide +kernel) (by decide +kernel), ok_X5_numerator.1, ok_X5_numerator.2.1, ok_X5_numerator.2.2.1, ok_X5_numerator.2.2.2.1, ok_X5_numerator.2.2.2.2, by decide +kernel, by decide +kernel⟩
theorem ok_X5_join_X5_denominator : okV mX5_join mX5_denominator 72 2 := ⟨TB_in (by decide +kernel) (by decide +kernel), ok_X5_denominator.1, ok_X5_denominator.2.1, ok_X5_denominator.2.2.1, ok_X5_denominator.2.2.2.1, ok_X5_denominator.2.2.2.2, by decide +kernel, by decide +kernel⟩
theorem ok_X5_join_X5_isOpen : okV mX5_join mX5_isOpen 56 1 := ⟨TB_in (by decide +kernel) (by decide +kernel), ok_X5_isOpen.1, ok_X5_isOpen.2.1, ok_X5_isOpen.2.2.1, ok_X5_isOpen.2.2.2.1, ok_X5_isOpen.2.2.2.2, by decide +kernel, by decide +kernel⟩
theorem ok_X5_join_X5_betweenJoined : okV mX5_join mX5_betweenJoined 75 3 := ⟨TB_in (by decide +kernel) (by decide +kernel), ok_X5_betweenJoined.1, ok_X5_betweenJoined.2.1, ok_X5_betweenJoined.2.2.1, ok_X5_betweenJoined.2.2.2.1, ok_X5_betweenJoined.2.2.2.2, by decide +kernel, by decide +kernel⟩
theorem ok_X5_join_X5_setBetween : okV mX5_join mX5_setBetween 52 3 := ⟨TB_in (by decide +kernel) (by decide +kernel), ok_X5_setBetween.1, ok_X5_setBetween.2.1, ok_X5_setBetween.2.2.1, ok_X5_setBetween.2.2.2.1, ok_X5_setBetween.2.2.2.2, by decide +kernel, by decide +kernel⟩
theorem ok_X5_weigh_X5_climb : okV mX5_weigh mX5_climb 79 1 := ⟨TB_in (by decide +kernel) (by decide +kernel), ok_X5_climb.1, ok_X5_climb.2.1, ok_X5_climb.2.2.1, ok_X5_climb.2.2.2.1, ok_X5_climb.2.2.2.2, by decide +kernel, by decide +kernel⟩
theorem ok_X6_type_X6_letterOf : okS mX6_type mX6_letterOf 55 1 := ⟨TB_in (by decide +kernel) (by decide +kernel), ok_X6_letterOf.1, ok_X6_letterOf.2.1, ok_X6_letterOf.2.2.1, ok_X6_letterOf.2.2.2, by decide +kernel, by decide +kernel⟩
theorem ok_X6_end_X2_copy : okV mX6_end mX2_copy 70 1 := ⟨TB_in (by decide +kernel) (by decide +kernel), ok_X2_copy.1, ok_X2_copy.2.1, ok_X2_copy.2.2.1, ok_X2_copy.2.2.2.1, ok_X2_copy.2.2.2.2, by decide +kernel, by decide +kernel⟩
theorem ok_X6_pair_X6_areTwoWords : okV mX6_pair mX6_areTwoWords 96 2 := ⟨TB_in (by decide +kernel) (by decide +kernel), ok_X6_areTwoWords.1, ok_X6_areTwoWords.2.1, ok_X6_areTwoWords.2.2.1, ok_X6_areTwoWords.2.2.2.1, ok_X6_areTwoWords.2.2.2.2, by decide +kernel, by decide +kernel⟩
theorem ok_X6_pair_X6_mergeOnTrial : okV mX6_pair mX6_mergeOnTrial 100 2 := ⟨TB_in (by decide +kernel) (by decide +kernel), ok_X6_mergeOnTrial.1, ok_X6_mergeOnTrial.2.1, ok_X6_mergeOnTrial.2.2.1, ok_X6_mergeOnTrial.2.2.2.1, ok_X6_mergeOnTrial.2.2.2.2, by decide +kernel, by decide +kernel⟩
theorem ok_X6_distance_X6_areTwoWords : okV mX6_distance mX6_areTwoWords 96 2 := ⟨TB_in (by decide +kernel) (by decide +kernel), ok_X6_areTwoWords.1, ok_X6_areTwoWords.2.1, ok_X6_areTwoWords.2.2.1, ok_X6_areTwoWords.2.2.2.1, ok_X6_areTwoWords.2.2.2.2, by decide +kernel, by decide +kernel⟩
theorem ok_X6_distance_X2_tuplesSharedWith : okV mX6_distance mX2_tuplesSharedWith 110 1 := ⟨TB_in (by decide +kernel) (by decide +kernel), ok_X2_tuplesSharedWith.1, ok_X2_tuplesSharedWith.2.1, ok_X2_tuplesSharedWith.2.2.1, ok_X2_tuplesSharedWith.2.2.2.1, ok_X2_tuplesSharedWith.2.2.2.2, by decide +kernel, by decide +kernel⟩
theorem ok_X6_distance_X6_share : okS mX6_distance mX6_share 114 2 := ⟨TB_in (by decide +kernel) (by decide +kernel), ok_X6_share.1, ok_X6_share.2.1, ok_X6_share.2.2.1, ok_X6_share.2.2.2, by decide +kernel, by decide +kernel⟩
theorem ok_X6_distance_X6_mergeOnTrial : okV mX6_distance mX6_mergeOnTrial 100 2 := ⟨TB_in (by decide +kernel) (by decide +kernel), ok_X6_mergeOnTrial.1, ok_X6_mergeOnTrial.2.1, ok_X6_mergeOnTrial.2.2.1, ok_X6_mergeOnTrial.2.2.2.1, ok_X6_mergeOnTrial.2.2.2.2, by decide +kernel, by decide +kernel⟩
theorem ok_X6_distance_X2_sameLettersAs : okV mX6_distance mX2_sameLettersAs 123 1 := ⟨TB_in (by decide +kernel) (by decide +kernel), ok_X2_sameLettersAs.1, ok_X2_sameLettersAs.2.1, ok_X2_sameLettersAs.2.2.1, ok_X2_sameLettersAs.2.2.2.1, ok_X2_sameLettersAs.2.2.2.2, by decide +kernel, by decide +kernel⟩
theorem ok_X6_align_X5_plant : okV mX6_align mX5_plant 126 2 := ⟨TB_in (by decide +kernel) (by decide +kernel), ok_X5_plant.1, ok_X5_plant.2.1, ok_X5_plant.2.2.1, ok_X5_plant.2.2.2.1, ok_X5_plant.2.2.2.2, by decide +kernel, by decide +kernel⟩
theorem ok_X6_align_X6_distance : okV mX6_align mX6_distance 130 2 := ⟨TB_in (by decide +kernel) (by decide +kernel), ok_X6_distance.1, ok_X6_distance.2.1, ok_X6_distance.2.2.1, ok_X6_distance.2.2.2.1, ok_X6_distance.2.2.2.2, by decide +kernel, by decide +kernel⟩
theorem ok_X6_align_X5_setDistance : okV mX6_align mX5_setDistance 133 3 := ⟨TB_in (by decide +kernel) (by decide +kernel), ok_X5_setDistance.1, ok_X5_setDistance.2.1, ok_X5_setDistance.2.2.1, ok_X5_setDistance.2.2.2.1, ok_X5_setDistance.2.2.2.2, by decide +kernel, by decide +kernel⟩
theorem ok_X6_align_X5_grow : okV mX6_align mX5_grow 137 0 := ⟨TB_in (by decide +kernel) (by decide +kernel), ok_X5_grow.1, ok_X5_grow.2.1, ok_X5_grow.2.2.1, ok_X5_grow.2.2.2.1, ok_X5_grow.2.2.2.2, by decide +kernel, by decide +kernel⟩
theorem ok_X6_align_X5_weigh : okV mX6_align mX5_weigh 140 1 := ⟨TB_in (by decide +kernel) (by decide +kernel), ok_X5_weigh.1, ok_X5_weigh.2.1, ok_X5_weigh.2.2.1, ok_X5_weigh.2.2.2.1, ok_X5_weigh.2.2.2.2, by decide +kernel, by decide +kernel⟩
theorem ok_X6_align_X2_copy : okV mX6_align mX2_copy 70 1 := ⟨TB_in (by decide +kernel) (by decide +kernel), ok_X2_copy.1, ok_X2_copy.2.1, ok_X2_copy.2.2.1, ok_X2_copy.2.2.2.1, ok_X2_copy.2.2.2.2, by decide +kernel, by decide +kernel⟩
theorem ok_X6_align_X6_mergeUpTheTree : okV mX6_align mX6_mergeUpTheTree 144 0 := ⟨TB_in (by decide +kernel) (by decide +kernel), ok_X6_mergeUpTheTree.1, ok_X6_mergeUpTheTree.2.1, ok_X6_mergeUpTheTree.2.2.1, ok_X6_mergeUpTheTree.2.2.2.1, ok_X6_mergeUpTheTree.2.2.2.2, by decide +kernel, by decide +kernel⟩
theorem ok_X6_align_X6_columns : okV mX6_align mX6_columns 147 0 := ⟨TB_in (by decide +kernel) (by decide +kernel), ok_X6_columns.1, ok_X6_columns.2.1, ok_X6_columns.2.2.1, ok_X6_columns.2.2.2.1, ok_X6_columns.2.2.2.2, by decide +kernel, by decide +kernel⟩
theorem ok_X6_at_X6_isWord : okV mX6_at mX6_isWord 151 1 := ⟨TB_in (by decide +kernel) (by decide +kernel), ok_X6_isWord.1, ok_X6_isWord.2.1, ok_X6_isWord.2.2.1, ok_X6_isWord.2.2.2.1, ok_X6_isWord.2.2.2.2, by decide +kernel, by decide +kernel⟩
theorem ok_X6_at_X6_columns : okV mX6_at mX6_columns 147 0 := ⟨TB_in (by decide +kernel) (by decide +kernel), ok_X6_columns.1, ok_X6_columns.2.1, ok_X6_columns.2.2.1, ok_X6_columns.2.2.2.1, ok_X6_columns.2.2.2.2, by decide +kernel, by decide +kernel⟩
theorem ok_X6_mark_X6_columns : okV mX6_mark mX6_columns 147 0 := ⟨TB_in (by decide +kernel) (by decide +kernel), ok_X6_columns.1, ok_X6_columns.2.1, ok_X6_columns.2.2.1, ok_X6_columns.2.2.2.1, ok_X6_columns.2.2.2.2, by decide +kernel, by decide +kernel⟩
theorem ok_X6_mark_X3_mostOfOneLetter : okV mX6_mark mX3_mostOfOneLetter 159 2 := ⟨TB_in (by decide +kernel) (by decide +kernel), ok_X3_mostOfOneLetter.1, ok_X3_mostOfOneLetter.2.1, ok_X3_mostOfOneLetter.2.2.1, ok_X3_mostOfOneLetter.2.2.2.1, ok_X3_mostOfOneLetter.2.2.2.2, by decide +kernel, by decide +kernel⟩
theorem ok_X6_mark_X3_allScoresPositive : okV mX6_mark mX3_allScoresPositive 162 3 := ⟨TB_in (by decide +kernel) (by decide +kernel), ok_X3_allScoresPositive.1, ok_X3_allScoresPositive.2.1, ok_X3_allScoresPositive.2.2.1, ok_X3_allScoresPositive.2.2.2.1, ok_X3_allScoresPositive.2.2.2.2, by decide +kernel, by decide +kernel⟩
theorem ok_X6_child_X6_isInnerNode : okV mX6_child mX6_isInnerNode 166 1 := ⟨TB_in (by decide +kernel) (by decide +kernel), ok_X6_isInnerNode.1, ok_X6_isInnerNode.2.1, ok_X6_isInnerNode.2.2.1, ok_X6_isInnerNode.2.2.2.1, ok_X6_isInnerNode.2.2.2.2, by decide +kernel, by decide +kernel⟩
theorem ok_X6_worth_X6_isInnerNode : okV mX6_worth mX6_isInnerNode 166 1 := ⟨TB_in (by decide +kernel) (by decide +kernel), ok_X6_isInnerNode.1, ok_X6_isInnerNode.2.1, ok_X6_isInnerNode.2.2.1, ok_X6_isInnerNode.2.2.2.1, ok_X6_isInnerNode.2.2.2.2, by decide +kernel, by decide +kernel⟩
theorem ok_X6_weight_X6_isWord : okV mX6_weight mX6_isWord 151 1 := ⟨TB_in (by decide +kernel) (by decide +kernel), ok_X6_isWord.1, ok_X6_isWord.2.1, ok_X6_isWord.2.2.1, ok_X6_isWord.2.2.2.1, ok_X6_isWord.2.2.2.2, by decide +kernel, by decide +kernel⟩
theorem ok_X6_total_X3_sumOverPairs : okV mX6_total mX3_sumOverPairs 181 3 := ⟨TB_in (by decide +kernel) (by decide +kernel), ok_X3_sumOverPairs.1, ok_X3_sumOverPairs.2.1, ok_X3_sumOverPairs.2.2.1, ok_X3_sumOverPairs.2.2.2.1, ok_X3_sumOverPairs.2.2.2.2, by decide +kernel, by decide +kernel⟩
theorem ok_X6_refine_X6_isWord : okV mX6_refine mX6_isWord 151 1 := ⟨TB_in (by decide +kernel) (by decide +kernel), ok_X6_isWord.1, ok_X6_isWord.2.1, ok_X6_isWord.2.2.1, ok_X6_isWord.2.2.2.1, ok_X6_isWord.2.2.2.2, by decide +kernel, by decide +kernel⟩
theorem ok_X6_refine_X3_copyWithout : okV mX6_refine mX3_copyWithout 191 2 := ⟨TB_in (by decide +kernel) (by decide +kernel), ok_X3_copyWithout.1, ok_X3_copyWithout.2.1, ok_X3_copyWithout.2.2.1, ok_X3_copyWithout.2.2.2.1, ok_X3_copyWithout.2.2.2.2, by decide +kernel, by decide +kernel⟩
theorem ok_X6_refine_X2_copy : okV mX6_refine mX2_copy 70 1 := ⟨TB_in (by decide +kernel) (by decide +kernel), ok_X2_copy.1, ok_X2_copy.2.1, ok_X2_copy.2.2.1, ok_X2_copy.2.2.2.1, ok_X2_copy.2.2.2.2, by decide +kernel, by decide +kernel⟩
theorem ok_X6_refine_X1_unite : okV mX6_refine mX1_unite 195 4 := ⟨TB_in (by decide +kernel) (by decide +kernel), ok_X1_unite.1, ok_X1_unite.2.1, ok_X1_unite.2.2.1, ok_X1_unite.2.2.2.1, ok_X1_unite.2.2.2.2, by decide +kernel, by decide +kernel⟩
theorem ok_X6_refine_X3_sumOverPairs : okV mX6_refine mX3_sumOverPairs 181 3 := ⟨TB_in (by decide +kernel) (by decide +kernel), ok_X3_sumOverPairs.1, ok_X3_sumOverPairs.2.1, ok_X3_sumOverPairs.2.2.1, ok_X3_sumOverPairs.2.2.2.1, ok_X3_sumOverPairs.2.2.2.2, by decide +kernel, by decide +kernel⟩
theorem ok_X6_refine_X6_total : okV mX6_refine mX6_total 199 0 := ⟨TB_in (by decide +kernel) (by decide +kernel), ok_X6_total.1, ok_X6_total.2.1, ok_X6_total.2.2.1, ok_X6_total.2.2.2.1, ok_X6_total.2.2.2.2, by decide +kernel, by decide +kernel⟩
theorem ok_X6_polish_X6_refine : okV mX6_polish mX6_refine 203 1 := ⟨TB_in (by decide +kernel) (by decide +kernel), ok_X6_refine.1, ok_X6_refine.2.1, ok_X6_refine.2.2.1, ok_X6_refine.2.2.2.1, ok_X6_refine.2.2.2.2, by decide +kernel, by decide +kernel⟩
theorem ok_X6_areTwoWords_X6_isWord : okV mX6_areTwoWords mX6_isWord 151 1 := ⟨TB_in (by decide +kernel) (by decide +kernel), ok_X6_isWord.1, ok_X6_isWord.2.1, ok_X6_isWord.2.2.1, ok_X6_isWord.2.2.2.1, ok_X6_isWord.2.2.2.2, by decide +kernel, by decide +kernel⟩
theorem ok_X6_mergeOnTrial_X2_copy : okV mX6_mergeOnTrial mX2_copy 70 1 := ⟨TB_in (by decide +kernel) (by decide +kernel), ok_X2_copy.1, ok_X2_copy.2.1, ok_X2_copy.2.2.1, ok_X2_copy.2.2.2.1, ok_X2_copy.2.2.2.2, by decide +kernel, by decide +kernel⟩
theorem ok_X6_mergeOnTrial_X1_unite : okV mX6_mergeOnTrial mX1_unite 195 4 := ⟨TB_in (by decide +kernel) (by decide +kernel), ok_X1_unite.1, ok_X1_unite.2.1, ok_X1_unite.2.2.1, ok_X1_unite.2.2.2.1, ok_X1_unite.2.2.2.2, by decide +kernel, by decide +kernel⟩
theorem ok_X6_mergeUpTheTree_X1_unite : okV mX6_mergeUpTheTree mX1_unite 195 4 := ⟨TB_in (by decide +kernel) (by decide +kernel), ok_X1_unite.1, ok_X1_unite.2.1, ok_X1_unite.2.2.1, ok_X1_unite.2.2.2.1, ok_X1_unite.2.2.2.2, by decide +kernel, by decide +kernel⟩
theorem ok_X7_type_X7_numberOf : okS mX7_type mX7_numberOf 96 1 := ⟨TB_in (by decide +kernel) (by decide +kernel), ok_X7_numberOf.1, ok_X7_numberOf.2.1, ok_X7_numberOf.2.2.1, ok_X7_numberOf.2.2.2, by decide +kernel, by decide +kernel⟩
theorem ok_X7_end_X7_forget : okV mX7_end mX7_forget 106 0 := ⟨TB_in (by decide +kernel) (by decide +kernel), ok_X7_forget.1, ok_X7_forget.2.1, ok_X7_forget.2.2.1, ok_X7_forget.2.2.2.1, ok_X7_forget.2.2.2.2, by decide +kernel, by decide +kernel⟩
theorem ok_X7_score_X7_forget : okV mX7_score mX7_forget 106 0 := ⟨TB_in (by decide +kernel) (by decide +kernel), ok_X7_forget.1, ok_X7_forget.2.1, ok_X7_forget.2.2.1, ok_X7_forget.2.2.2.1, ok_X7_forget.2.2.2.2, by decide +kernel, by decide +kernel⟩
theorem ok_X7_gaps_X7_forget : okV mX7_gaps mX7_forget 106 0 := ⟨TB_in (by decide +kernel) (by decide +kernel), ok_X7_forget.1, ok_X7_forget.2.1, ok_X7_forget.2.2.1, ok_X7_forget.2.2.2.1, ok_X7_forget.2.2.2.2, by decide +kernel, by decide +kernel⟩
theorem ok_X7_settings_X7_forget : okV mX7_settings mX7_forget 106 0 := ⟨TB_in (by decide +kernel) (by decide +kernel), ok_X7_forget.1, ok_X7_forget.2.1, ok_X7_forget.2.2.1, ok_X7_forget.2.2.2.1, ok_X7_forget.2.2.2.2, by decide +kernel, by decide +kernel⟩
theorem ok_X7_weightOfSet_X7_isIn : okV mX7_weightOfSet mX7_isIn 130 2 := ⟨TB_in (by decide +kernel) (by decide +kernel), ok_X7_isIn.1, ok_X7_isIn.2.1, ok_X7_isIn.2.2.1, ok_X7_isIn.2.2.2.1, ok_X7_isIn.2.2.2.2, by decide +kernel, by decide +kernel⟩
theorem ok_X7_prepare_X7_isIn : okV mX7_prepare mX7_isIn 130 2 := ⟨TB_in (by decide +kernel) (by decide +kernel), ok_X7_isIn.1, ok_X7_isIn.2.1, ok_X7_isIn.2.2.1, ok_X7_isIn.2.2.2.1, ok_X7_isIn.2.2.2.2, by decide +kernel, by decide +kernel⟩
theorem ok_X7_prepare_X7_bothAt : okV mX7_prepare mX7_bothAt 134 2 := ⟨TB_in (by decide +kernel) (by decide +kernel), ok_X7_bothAt.1, ok_X7_bothAt.2.1, ok_X7_bothAt.2.2.1, ok_X7_bothAt.2.2.2.1, ok_X7_bothAt.2.2.2.2, by decide +kernel, by decide +kernel⟩
theorem ok_X7_bothAt_X7_isIn : okV mX7_bothAt mX7_isIn 130 2 := ⟨TB_in (by decide +kernel) (by decide +kernel), ok_X7_isIn.1, ok_X7_isIn.2.1, ok_X7_isIn.2.2.1, ok_X7_isIn.2.2.2.1, ok_X7_isIn.2.2.2.2, by decide +kernel, by decide +kernel⟩
theorem ok_X7_stepWorth_X7_entry : okV mX7_stepWorth mX7_entry 138 3 := ⟨TB_in (by decide +kernel) (by decide +kernel), ok_X7_entry.1, ok_X7_entry.2.1, ok_X7_entry.2.2.1, ok_X7_entry.2.2.2.1, ok_X7_entry.2.2.2.2, by decide +kernel, by decide +kernel⟩
theorem ok_X7_merge_X7_prepare : okV mX7_merge mX7_prepare 142 0 := ⟨TB_in (by decide +kernel) (by decide +kernel), ok_X7_prepare.1, ok_X7_prepare.2.1, ok_X7_prepare.2.2.1, ok_X7_prepare.2.2.2.1, ok_X7_prepare.2.2.2.2, by decide +kernel, by decide +kernel⟩
theorem ok_X7_merge_X7_weightOfSet : okV mX7_merge mX7_weightOfSet 145 1 := ⟨TB_in (by decide +kernel) (by decide +kernel), ok_X7_weightOfSet.1, ok_X7_weightOfSet.2.1, ok_X7_weightOfSet.2.2.1, ok_X7_weightOfSet.2.2.2.1, ok_X7_weightOfSet.2.2.2.2, by decide +kernel, by decide +kernel⟩
theorem ok_X7_merge_X7_canStep : okV mX7_merge mX7_canStep 149 3 := ⟨TB_in (by decide +kernel) (by decide +kernel), ok_X7_canStep.1, ok_X7_canStep.2.1, ok_X7_canStep.2.2.1, ok_X7_canStep.2.2.2.1, ok_X7_canStep.2.2.2.2, by decide +kernel, by decide +kernel⟩
theorem ok_X7_merge_X7_stepWorth : okV mX7_merge mX7_stepWorth 153 6 := ⟨TB_in (by decide +kernel) (by decide +kernel), ok_X7_stepWorth.1, ok_X7_stepWorth.2.1, ok_X7_stepWorth.2.2.1, ok_X7_stepWorth.2.2.2.1, ok_X7_stepWorth.2.2.2.2, by decide +kernel, by decide +kernel⟩
theorem ok_X7_merge_X7_entry : okV mX7_merge mX7_entry 138 3 := ⟨TB_in (by decide +kernel) (by decide +kernel), ok_X7_entry.1, ok_X7_entry.2.1, ok_X7_entry.2.2.1, ok_X7_entry.2.2.2.1, ok_X7_entry.2.2.2.2, by decide +kernel, by decide +kernel⟩
theorem ok_X7_merge_X7_walk : okV mX7_merge mX7_walk 157 2 := ⟨TB_in (by decide +kernel) (by decide +kernel), ok_X7_walk.1, ok_X7_walk.2.1, ok_X7_walk.2.2.1, ok_X7_walk.2.2.2.1, ok_X7_walk.2.2.2.2, by decide +kernel, by decide +kernel⟩
theorem ok_X7_walk_X7_canStep : okV mX7_walk mX7_canStep 149 3 := ⟨TB_in (by decide +kernel) (by decide +kernel), ok_X7_canStep.1, ok_X7_canStep.2.1, ok_X7_canStep.2.2.1, ok_X7_canStep.2.2.2.1, ok_X7_canStep.2.2.2.2, by decide +kernel, by decide +kernel⟩
theorem ok_X7_walk_X7_stepWorth : okV mX7_walk mX7_stepWorth 153 6 := ⟨TB_in (by decide +kernel) (by decide +kernel), ok_X7_stepWorth.1, ok_X7_stepWorth.2.1, ok_X7_stepWorth.2.2.1, ok_X7_stepWorth.2.2.2.1, ok_X7_stepWorth.2.2.2.2, by decide +kernel, by decide +kernel⟩
theorem ok_X7_walk_X7_entry : okV mX7_walk mX7_entry 138 3 := ⟨TB_in (by decide +kernel) (by decide +kernel), ok_X7_entry.1, ok_X7_entry.2.1, ok_X7_entry.2.2.1, ok_X7_entry.2.2.2.1, ok_X7_entry.2.2.2.2, by decide +kernel, by decide +kernel⟩
theorem ok_X7_walk_X7_isIn : okV mX7_walk mX7_isIn 130 2 := ⟨TB_in (by decide +kernel) (by decide +kernel), ok_X7_isIn.1, ok_X7_isIn.2.1, ok_X7_isIn.2.2.1, ok_X7_isIn.2.2.2.1, ok_X7_isIn.2.2.2.2, by decide +kernel, by decide +kernel⟩
theorem ok_X7_mergeWords_X7_plainFactors : okV mX7_mergeWords mX7_plainFactors 164 0 := ⟨TB_in (by decide +kernel) (by decide +kernel), ok_X7_plainFactors.1, ok_X7_plainFactors.2.1, ok_X7_plainFactors.2.2.1, ok_X7_plainFactors.2.2.2.1, ok_X7_plainFactors.2.2.2.2, by decide +kernel, by decide +kernel⟩
theorem ok_X7_mergeWords_X7_alone : okV mX7_mergeWords mX7_alone 167 2 := ⟨TB_in (by decide +kernel) (by decide +kernel), ok_X7_alone.1, ok_X7_alone.2.1, ok_X7_alone.2.2.1, ok_X7_alone.2.2.2.1, ok_X7_alone.2.2.2.2, by decide +kernel, by decide +kernel⟩
theorem ok_X7_mergeWords_X7_merge : okV mX7_mergeWords mX7_merge 171 0 := ⟨TB_in (by decide +kernel) (by decide +kernel), ok_X7_merge.1, ok_X7_merge.2.1, ok_X7_merge.2.2.1, ok_X7_merge.2.2.2.1, ok_X7_merge.2.2.2.2, by decide +kernel, by decide +kernel⟩
theorem ok_X7_pair_X7_areTwo : okV mX7_pair mX7_areTwo 175 2 := ⟨TB_in (by decide +kernel) (by decide +kernel), ok_X7_areTwo.1, ok_X7_areTwo.2.1, ok_X7_areTwo.2.2.1, ok_X7_areTwo.2.2.2.1, ok_X7_areTwo.2.2.2.2, by decide +kernel, by decide +kernel⟩
theorem ok_X7_pair_X7_mergeWords : okV mX7_pair mX7_mergeWords 178 2 := ⟨TB_in (by decide +kernel) (by decide +kernel), ok_X7_mergeWords.1, ok_X7_mergeWords.2.1, ok_X7_mergeWords.2.2.1, ok_X7_mergeWords.2.2.2.1, ok_X7_mergeWords.2.2.2.2, by decide +kernel, by decide +kernel⟩
theorem ok_X7_shared_X7_timesIn : okV mX7_shared mX7_timesIn 182 2 := ⟨TB_in (by decide +kernel) (by decide +kernel), ok_X7_timesIn.1, ok_X7_timesIn.2.1, ok_X7_timesIn.2.2.1, ok_X7_timesIn.2.2.2.1, ok_X7_timesIn.2.2.2.2, by decide +kernel, by decide +kernel⟩
theorem ok_X7_distance_X7_areTwo : okV mX7_distance mX7_areTwo 175 2 := ⟨TB_in (by decide +kernel) (by decide +kernel), ok_X7_areTwo.1, ok_X7_areTwo.2.1, ok_X7_areTwo.2.2.1, ok_X7_areTwo.2.2.2.1, ok_X7_areTwo.2.2.2.2, by decide +kernel, by decide +kernel⟩
theorem ok_X7_distance_X7_shared : okV mX7_distance mX7_shared 185 2 := ⟨TB_in (by decide +kernel) (by decide +kernel), ok_X7_shared.1, ok_X7_shared.2.1, ok_X7_shared.2.2.1, ok_X7_shared.2.2.2.1, ok_X7_shared.2.2.2.2, by decide +kernel, by decide +kernel⟩
theorem ok_X7_distance_X7_mergeWords : okV mX7_distance mX7_mergeWords 178 2 := ⟨TB_in (by decide +kernel) (by decide +kernel), ok_X7_mergeWords.1, ok_X7_mergeWords.2.1, ok_X7_mergeWords.2.2.1, ok_X7_mergeWords.2.2.2.1, ok_X7_mergeWords.2.2.2.2, by decide +kernel, by decide +kernel⟩
theorem ok_X7_countOf_X7_isIn : okV mX7_countOf mX7_isIn 130 2 := ⟨TB_in (by decide +kernel) (by decide +kernel), ok_X7_isIn.1, ok_X7_isIn.2.1, ok_X7_isIn.2.2.1, ok_X7_isIn.2.2.2.1, ok_X7_isIn.2.2.2.2, by decide +kernel, by decide +kernel⟩
theorem ok_X7_sumOf_X7_isIn : okV mX7_sumOf mX7_isIn 130 2 := ⟨TB_in (by decide +kernel) (by decide +kernel), ok_X7_isIn.1, ok_X7_isIn.2.1, ok_X7_isIn.2.2.1, ok_X7_isIn.2.2.2.1, ok_X7_isIn.2.2.2.2, by decide +kernel, by decide +kernel⟩
theorem ok_X7_valueOf_X7_spansOf : okV mX7_valueOf mX7_spansOf 188 2 := ⟨TB_in (by decide +kernel) (by decide +kernel), ok_X7_spansOf.1, ok_X7_spansOf.2.1, ok_X7_spansOf.2.2.1, ok_X7_spansOf.2.2.2.1, ok_X7_spansOf.2.2.2.2, by decide +kernel, by decide +kernel⟩
theorem ok_X7_valueOf_X7_sumOf : okV mX7_valueOf mX7_sumOf 198 2 := ⟨TB_in (by decide +kernel) (by decide +kernel), ok_X7_sumOf.1, ok_X7_sumOf.2.1, ok_X7_sumOf.2.2.1, ok_X7_sumOf.2.2.2.1, ok_X7_sumOf.2.2.2.2, by decide +kernel, by decide +kernel⟩
theorem ok_X7_valueOf_X7_countOf : okV mX7_valueOf mX7_countOf 201 1 := ⟨TB_in (by decide +kernel) (by decide +kernel), ok_X7_countOf.1, ok_X7_countOf.2.1, ok_X7_countOf.2.2.1, ok_X7_countOf.2.2.2.1, ok_X7_countOf.2.2.2.2, by decide +kernel, by decide +kernel⟩
theorem ok_X7_join_X7_valueOf : okV mX7_join mX7_valueOf 204 4 := ⟨TB_in (by decide +kernel) (by decide +kernel), ok_X7_valueOf.1, ok_X7_valueOf.2.1, ok_X7_valueOf.2.2.1, ok_X7_valueOf.2.2.2.1, ok_X7_valueOf.2.2.2.2, by decide +kernel, by decide +kernel⟩
theorem ok_X7_weigh_X7_countOf : okV mX7_weigh mX7_countOf 201 1 := ⟨TB_in (by decide +kernel) (by decide +kernel), ok_X7_countOf.1, ok_X7_countOf.2.1, ok_X7_countOf.2.2.1, ok_X7_countOf.2.2.2.1, ok_X7_countOf.2.2.2.2, by decide +kernel, by decide +kernel⟩
theorem ok_X7_align_X7_distance : okV mX7_align mX7_distance 210 2 := ⟨TB_in (by decide +kernel) (by decide +kernel), ok_X7_distance.1, ok_X7_distance.2.1, ok_X7_distance.2.2.1, ok_X7_distance.2.2.2.1, ok_X7_distance.2.2.2.2, by decide +kernel, by decide +kernel⟩
theorem ok_X7_align_X7_join : okV mX7_align mX7_join 213 1 := ⟨TB_in (by decide +kernel) (by decide +kernel), ok_X7_join.1, ok_X7_join.2.1, ok_X7_join.2.2.1, ok_X7_join.2.2.2.1, ok_X7_join.2.2.2.2, by decide +kernel, by decide +kernel⟩
theorem ok_X7_align_X7_weigh : okV mX7_align mX7_weigh 217 0 := ⟨TB_in (by decide +kernel) (by decide +kernel), ok_X7_weigh.1, ok_X7_weigh.2.1, ok_X7_weigh.2.2.1, ok_X7_weigh.2.2.2.1, ok_X7_weigh.2.2.2.2, by decide +kernel, by decide +kernel⟩
theorem ok_X7_align_X7_useWeights : okV mX7_align mX7_useWeights 220 0 := ⟨TB_in (by decide +kernel) (by decide +kernel), ok_X7_useWeights.1, ok_X7_useWeights.2.1, ok_X7_useWeights.2.2.1, ok_X7_useWeights.2.2.2.1, ok_X7_useWeights.2.2.2.2, by decide +kernel, by decide +kernel⟩
theorem ok_X7_align_X7_takeP : okV mX7_align mX7_takeP 223 1 := ⟨TB_in (by decide +kernel) (by decide +kernel), ok_X7_takeP.1, ok_X7_takeP.2.1, ok_X7_takeP.2.2.1, ok_X7_takeP.2.2.2.1, ok_X7_takeP.2.2.2.2, by decide +kernel, by decide +kernel⟩
theorem ok_X7_align_X7_takeQ : okV mX7_align mX7_takeQ 226 1 := ⟨TB_in (by decide +kernel) (by decide +kernel), ok_X7_takeQ.1, ok_X7_takeQ.2.1, ok_X7_takeQ.2.2.1, ok_X7_takeQ.2.2.2.1, ok_X7_takeQ.2.2.2.2, by decide +kernel, by decide +kernel⟩
theorem ok_X7_align_X7_merge : okV mX7_align mX7_merge 171 0 := ⟨TB_in (by decide +kernel) (by decide +kernel), ok_X7_merge.1, ok_X7_merge.2.1, ok_X7_merge.2.2.1, ok_X7_merge.2.2.2.1, ok_X7_merge.2.2.2.2, by decide +kernel, by decide +kernel⟩
theorem ok_X7_at_X7_letterOf : okS mX7_at mX7_letterOf 229 1 := ⟨TB_in (by decide +kernel) (by decide +kernel), ok_X7_letterOf.1, ok_X7_letterOf.2.1, ok_X7_letterOf.2.2.1, ok_X7_letterOf.2.2.2, by decide +kernel, by decide +kernel⟩
theorem ok_X7_child_X7_isInner : okV mX7_child mX7_isInner 233 1 := ⟨TB_in (by decide +kernel) (by decide +kernel), ok_X7_isInner.1, ok_X7_isInner.2.1, ok_X7_isInner.2.2.1, ok_X7_isInner.2.2.2.1, ok_X7_isInner.2.2.2.2, by decide +kernel, by decide +kernel⟩
theorem ok_X7_worth_X7_isInner : okV mX7_worth mX7_isInner 233 1 := ⟨TB_in (by decide +kernel) (by decide +kernel), ok_X7_isInner.1, ok_X7_isInner.2.1, ok_X7_isInner.2.2.1, ok_X7_isInner.2.2.2.1, ok_X7_isInner.2.2.2.2, by decide +kernel, by decide +kernel⟩
theorem ok_X7_totalOf_X7_pairTotal : okV mX7_totalOf mX7_pairTotal 237 4 := ⟨TB_in (by decide +kernel) (by decide +kernel), ok_X7_pairTotal.1, ok_X7_pairTotal.2.1, ok_X7_pairTotal.2.2.1, ok_X7_pairTotal.2.2.2.1, ok_X7_pairTotal.2.2.2.2, by decide +kernel, by decide +kernel⟩
theorem ok_X7_total_X7_totalOf : okV mX7_total mX7_totalOf 241 2 := ⟨TB_in (by decide +kernel) (by decide +kernel), ok_X7_totalOf.1, ok_X7_totalOf.2.1, ok_X7_totalOf.2.2.1, ok_X7_totalOf.2.2.2.1, ok_X7_totalOf.2.2.2.2, by decide +kernel, by decide +kernel⟩
theorem ok_X7_refine_X7_hasLetter : okV mX7_refine mX7_hasLetter 245 2 := ⟨TB_in (by decide +kernel) (by decide +kernel), ok_X7_hasLetter.1, ok_X7_hasLetter.2.1, ok_X7_hasLetter.2.2.1, ok_X7_hasLetter.2.2.2.1, ok_X7_hasLetter.2.2.2.2, by decide +kernel, by decide +kernel⟩
theorem ok_X7_refine_X7_alone : okV mX7_refine mX7_alone 167 2 := ⟨TB_in (by decide +kernel) (by decide +kernel), ok_X7_alone.1, ok_X7_alone.2.1, ok_X7_alone.2.2.1, ok_X7_alone.2.2.2.1, ok_X7_alone.2.2.2.2, by decide +kernel, by decide +kernel⟩
theorem ok_X7_refine_X7_useWeights : okV mX7_refine mX7_useWeights 220 0 := ⟨TB_in (by decide +kernel) (by decide +kernel), ok_X7_useWeights.1, ok_X7_useWeights.2.1, ok_X7_useWeights.2.2.1, ok_X7_useWeights.2.2.2.1, ok_X7_useWeights.2.2.2.2, by decide +kernel, by decide +kernel⟩
theorem ok_X7_refine_X7_merge : okV mX7_refine mX7_merge 171 0 := ⟨TB_in (by decide +kernel) (by decide +kernel), ok_X7_merge.1, ok_X7_merge.2.1, ok_X7_merge.2.2.1, ok_X7_merge.2.2.2.1, ok_X7_merge.2.2.2.2, by decide +kernel, by decide +kernel⟩
theorem ok_X7_refine_X7_totalOf : okV mX7_refine mX7_totalOf 241 2 := ⟨TB_in (by decide +kernel) (by decide +kernel), ok_X7_totalOf.1, ok_X7_totalOf.2.1, ok_X7_totalOf.2.2.1, ok_X7_totalOf.2.2.2.1, ok_X7_totalOf.2.2.2.2, by decide +kernel, by decide +kernel⟩
theorem ok_X7_polish_X7_refine : okV mX7_polish mX7_refine 248 1 := ⟨TB_in (by decide +kernel) (by decide +kernel), ok_X7_refine.1, ok_X7_refine.2.1, ok_X7_refine.2.2.1, ok_X7_refine.2.2.2.1, ok_X7_refine.2.2.2.2, by decide +kernel, by decide +kernel⟩
/-- the fields that the pools name: class, entry; class and place of the field -/
def FT : List (Nat × Nat × Nat × Nat) := [(1, 12, 1, 1), (1, 18, 1, 2), (1, 23, 1, 3), (1, 26, 1, 4), (1, 30, 1, 0), (1, 38, 0, 1), (1, 44, 4, 2), (1, 47, 1, 6), (1, 50, 4, 3), (1, 60, 1, 5), (1, 84, 1, 7), (1, 87, 1, 8), (1, 90, 1, 9), (1, 96, 0, 2), (1, 99, 4, 1), (1, 102, 4, 0), (1, 105, 0, 0), (2, 9, 2, 0), (2, 15, 2, 1), (2, 34, 0, 0), (2, 39, 0, 2), (2, 42, 0, 1), (3, 11, 3, 0), (3, 20, 2, 1), (3, 31, 2, 0), (3, 45, 0, 0), (4, 11, 4, 0), (4, 15, 4, 1), (4, 24, 4, 2), (4, 32, 3, 0), (4, 42, 2, 1), (4, 47, 4, 3), (4, 48, 2, 0), (5, 9, 5, 0), (5, 15, 5, 1), (5, 21, 5, 3), (5, 24, 5, 4), (5, 27, 5, 5), (5, 30, 5, 6), (5, 33, 5, 7), (5, 38, 5, 8), (5, 41, 5, 11), (5, 45, 5, 9), (5, 49, 5, 10), (6, 11, 6, 0), (6, 18, 6, 1), (6, 25, 6, 2), (6, 34, 6, 3), (6, 41, 6, 4), (6, 48, 6, 5), (6, 52, 6, 6), (6, 59, 2, 1), (6, 63, 2, 0), (6, 67, 6, 7), (6, 74, 6, 11), (6, 78, 0, 0), (6, 81, 0, 1), (6, 84, 0, 2), (6, 87, 6, 8), (6, 90, 6, 9), (6, 93, 6, 10), (6, 120, 3, 0), (6, 169, 5, 0), (6, 172, 5, 1), (6, 175, 5, 2), (6, 178, 5, 7), (6, 185, 5, 3), (6, 188, 5, 10), (7, 7, 7, 1), (7, 13, 7, 2), (7, 16, 7, 4), (7, 19, 7, 5), (7, 22, 7, 6), (7, 26, 7, 7), (7, 29, 7, 12), (7, 32, 7, 13), (7, 35, 7, 14), (7, 38, 7, 15), (7, 41, 7, 16), (7, 44, 7, 17), (7, 47, 7, 18), (7, 50, 7, 19), (7, 53, 7, 20), (7, 56, 7, 21), (7, 59, 7, 22), (7, 62, 7, 24), (7, 65, 7, 29), (7, 68, 7, 30), (7, 71, 7, 32), (7, 74, 7, 33), (7, 77, 7, 34), (7, 80, 7, 35), (7, 83, 7, 36), (7, 86, 7, 37), (7, 89, 7, 11), (7, 93, 7, 23), (7, 100, 7, 3), (7, 103, 7, 0), (7, 109, 7, 8), (7, 112, 7, 9), (7, 115, 7, 10), (7, 118, 7, 25), (7, 121, 7, 27), (7, 124, 7, 26), (7, 127, 7, 28), (7, 161, 7, 31), (7, 191, 7, 38), (7, 195, 7, 39)]
theorem FT_in : ∀ x ∈ FT, Cond.fieldLink (Rn x.1) x.2.1 (Tn x.2.2.1 x.2.2.2).1 (Tn x.2.2.1 x.2.2.2).2.1 (Tn x.2.2.1 x.2.2.2).2.2.1 ∈ lw_tbl := by decide +kernel
theorem FT_sz : ∀ x ∈ FT, x.2.2.1 < 8 ∧ x.2.2.2 < nfn x.2.2.1 := by decide +kernel
theorem FT_ok {o i c k : Nat} (h : FT.contains (o, i, c, k) = true) : Cond.fieldLink (Rn o) i (Tn c k).1 (Tn c k).2.1 (Tn c k).2.2.1 ∈ TB ∧ c < 8 ∧ k < nfn c := ⟨TB_in (FT_in _ (List.contains_iff_mem.mp h)) (by rfl), FT_sz _ (List.contains_iff_mem.mp h)⟩
def CT : List (Nat × Nat × Int32) := [(1, 83, -1000000000), (6, 104, -1000000), (6, 202, 1000000), (7, 181, -1000000)]
theorem CT_in : ∀ x ∈ CT, Cond.constant (Rn x.1) x.2.1 x.2.2 ∈ lw_tbl := by decide +kernel
theorem CT_ok {o i : Nat} {v : Int32} (h : CT.contains (o, i, v) = true) : Cond.constant (Rn o) i v ∈ TB := TB_in (CT_in _ (List.contains_iff_mem.mp h)) (by rfl)
theorem CL_ok : Cond.constantLong (Rn 7) 208 100 ∈ TB := TB_in (by decide +kernel) (by decide +kernel)
theorem S_6_155 : Cond.fieldLink (Rn 6) 155 RX6 "LETTERS" "[C" ∈ TB := TB_in (by decide +kernel) (by decide +kernel)
theorem S_6_206 : Cond.fieldLink (Rn 6) 206 RX6 "EQUAL_WEIGHTS" "[I" ∈ TB := TB_in (by decide +kernel) (by decide +kernel)
end
section
/-! A BLOCK of straight code, evaluated: instructions with what they look up; ks: the places at which arrays are read and written, in their order -/
abbrev AI : Type := Instr × Nat × Nat × Int32
abbrev AS : Type := Nat × List (Option Value) × List Value × Mem × List Nat
def ilen : Instr → Nat
  | .bipush _ => 2 | .sipush _ => 3 | .ldc _ => 2 | .ldc2_w _ => 3 | .iload _ => 2 | .aload _ => 2 | .lload _ => 2 | .istore _ => 2 | .astore _ => 2 | .lstore _ => 2 | .iinc _ _ => 3 | .getfield _ => 3 | .putfield _ => 3 | .getstatic _ => 3 | .goto _ => 3
  | _ => 1
/-- what is looked at ahead: the code itself, constants, links -/
def okI (q : MI) (o pc : Nat) (x : AI) : Bool :=
  decide (decode q.cc pc = .ok (x.1, ilen x.1)) && match x with
  | (.iconst n, _, _, v) => decide (Int32.ofInt n = v)
  | (.bipush n, _, _, v) => decide ((Int8.ofInt n).toInt32 = v)
  | (.sipush n, _, _, v) => decide ((Int16.ofInt n).toInt32 = v)
  | (.ldc i, _, _, v) => CT.contains (o, i, v)
  | (.ldc2_w i, _, _, _) => decide (o = 7 ∧ i = 208)
  | (.iinc n d, _, _, v) => decide (Int32.ofInt d = v) && decide (n < q.ml)
  | (.istore_n n, _, _, _) => decide (n.val < q.ml)
  | (.istore n, _, _, _) => decide (n < q.ml)
  | (.astore_n n, _, _, _) => decide (n.val < q.ml)
  | (.astore n, _, _, _) => decide (n < q.ml)
  | (.lstore n, _, _, _) => decide (n + 1 < q.ml)
  | (.getfield i, a, b, _) => FT.contains (o, i, a, b)
  | (.putfield i, a, b, _) => FT.contains (o, i, a, b) && decide ((Tn a b).2.2.2 = false) && decide (((fk a b).1 = 0 ∧ tyn a b = .int) ∨ ((fk a b).1 = 1 ∧ tyn a b = .boolean) ∨ ((fk a b).1 = 2 ∧ tyn a b = .long) ∨ ((fk a b).1 = 4 ∧ tyn a b = .object RX3))
  | (.getstatic i, a, _, _) => decide (o = 6 ∧ ((i = 155 ∧ a = 96) ∨ (i = 206 ∧ a = 97)))
  | (.goto d, a, _, _) => decide ((pc : Int) + d = (a : Int))
  | _ => true
/-- the locals behind a store of a long -/
def lset2 (ls : List (Option Value)) (i : Nat) (v : Value) : List (Option Value) := (lset ls i v).set (i + 1) none
def e_iadd (S : AS) : Option (Prop × AS) := match S with
  | (pc, ls, .int y :: .int z :: st, M, ks) => some (True, pc + 1, ls, .int (z + y) :: st, M, ks)
  | _ => none
def e_isub (S : AS) : Option (Prop × AS) := match S with
  | (pc, ls, .int y :: .int z :: st, M, ks) => some (True, pc + 1, ls, .int (z - y) :: st, M, ks)
  | _ => none
def e_imul (S : AS) : Option (Prop × AS) := match S with
  | (pc, ls, .int y :: .int z :: st, M, ks) => some (True, pc + 1, ls, .int (z * y) :: st, M, ks)
  | _ => none
def e_iand (S : AS) : Option (Prop × AS) := match S with
  | (pc, ls, .int y :: .int z :: st, M, ks) => some (True, pc + 1, ls, .int (z &&& y) :: st, M, ks)
  | _ => none
def e_ior (S : AS) : Option (Prop × AS) := match S with
  | (pc, ls, .int y :: .int z :: st, M, ks) => some (True, pc + 1, ls, .int (z ||| y) :: st, M, ks)
  | _ => none
def e_ixor (S : AS) : Option (Prop × AS) := match S with
  | (pc, ls, .int y :: .int z :: st, M, ks) => some (True, pc + 1, ls, .int (z ^^^ y) :: st, M, ks)
  | _ => none
def e_ishl (S : AS) : Option (Prop × AS) := match S with
  | (pc, ls, .int y :: .int z :: st, M, ks) => some (True, pc + 1, ls, .int (z <<< (y &&& 31)) :: st, M, ks)
  | _ => none
def e_ishr (S : AS) : Option (Prop × AS) := match S with
  | (pc, ls, .int y :: .int z :: st, M, ks) => some (True, pc + 1, ls, .int (z >>> (y &&& 31)) :: st, M, ks)
  | _ => none
def e_idiv (S : AS) : Option (Prop × AS) := match S with
  | (pc, ls, .int y :: .int z :: st, M, ks) => some (¬ y = 0, pc + 1, ls, .int (z / y) :: st, M, ks)
  | _ => none
def e_irem (S : AS) : Option (Prop × AS) := match S with
  | (pc, ls, .int y :: .int z :: st, M, ks) => some (¬ y = 0, pc + 1, ls, .int (z - z / y * y) :: st, M, ks)
  | _ => none
def e_ineg (S : AS) : Option (Prop × AS) := match S with
  | (pc, ls, .int y :: st, M, ks) => some (True, pc + 1, ls, .int (-y) :: st, M, ks)
  | _ => none
def e_i2l (S : AS) : Option (Prop × AS) := match S with
  | (pc, ls, .int y :: st, M, ks) => some (True, pc + 1, ls, .long y.toInt64 :: st, M, ks)
  | _ => none
def e_l2i (S : AS) : Option (Prop × AS) := match S with
  | (pc, ls, .long y :: st, M, ks) => some (True, pc + 1, ls, .int y.toInt32 :: st, M, ks)
  | _ => none
def e_i2c (S : AS) : Option (Prop × AS) := match S with
  | (pc, ls, .int y :: st, M, ks) => some (True, pc + 1, ls, .int (y.toUInt32 % 65536).toInt32 :: st, M, ks)
  | _ => none
def e_lsub (S : AS) : Option (Prop × AS) := match S with
  | (pc, ls, .long y :: .long z :: st, M, ks) => some (True, pc + 1, ls, .long (z - y) :: st, M, ks)
  | _ => none
def e_lmul (S : AS) : Option (Prop × AS) := match S with
  | (pc, ls, .long y :: .long z :: st, M, ks) => some (True, pc + 1, ls, .long (z * y) :: st, M, ks)
  | _ => none
def e_ldiv (S : AS) : Option (Prop × AS) := match S with
  | (pc, ls, .long y :: .long z :: st, M, ks) => some (¬ y = 0, pc + 1, ls, .long (z / y) :: st, M, ks)
  | _ => none
def e_lcmp (S : AS) : Option (Prop × AS) := match S with
  | (pc, ls, .long y :: .long z :: st, M, ks) => some (True, pc + 1, ls, .int (lg_cmp z y) :: st, M, ks)
  | _ => none
def e_dup (S : AS) : Option (Prop × AS) := match S with
  | (pc, ls, y :: st, M, ks) => some (y.category = 1, pc + 1, ls, y :: y :: st, M, ks)
  | _ => none
def e_pop (S : AS) : Option (Prop × AS) := match S with
  | (pc, ls, y :: st, M, ks) => some (y.category = 1, pc + 1, ls, st, M, ks)
  | _ => none
def e_dup2 (S : AS) : Option (Prop × AS) := match S with
  | (pc, ls, y :: z :: st, M, ks) => some (y.category = 1 ∧ z.category = 1, pc + 1, ls, y :: z :: y :: z :: st, M, ks)
  | _ => none
def e_iaload (S : AS) : Option (Prop × AS) := match S with
  | (pc, ls, .int i :: .ref t :: st, M, k :: ks) => some (i = nI k ∧ k < al t, pc + 1, ls, .int (M t k) :: st, M, ks)
  | _ => none
def e_iastore (S : AS) : Option (Prop × AS) := match S with
  | (pc, ls, .int y :: .int i :: .ref t :: st, M, k :: ks) => some (i = nI k ∧ k < al t ∧ t < 96, pc + 1, ls, st, stm M t k y, ks)
  | _ => none
def e_aaload (S : AS) : Option (Prop × AS) := match S with
  | (pc, ls, .int i :: .ref t :: st, M, k :: ks) => some (i = nI k ∧ k < rl t, pc + 1, ls, .ref (rb t + k) :: st, M, ks)
  | _ => none
def e_caload (S : AS) : Option (Prop × AS) := match S with
  | (pc, ls, .int i :: .ref t :: st, M, k :: ks) => some (i = nI k ∧ k < 4 ∧ t = 96, pc + 1, ls, .int (ltr k) :: st, M, ks)
  | _ => none
def e_push (n : Nat) (v : Value) (S : AS) : Option (Prop × AS) := some (True, S.1 + n, S.2.1, v :: S.2.2.1, S.2.2.2)
def e_iload (n j : Nat) (S : AS) : Option (Prop × AS) := match S.2.1[j]? with
  | some (some (.int y)) => some (True, S.1 + n, S.2.1, .int y :: S.2.2.1, S.2.2.2)
  | _ => none
def e_aload (n j : Nat) (S : AS) : Option (Prop × AS) := match S.2.1[j]? with
  | some (some (.ref y)) => some (True, S.1 + n, S.2.1, .ref y :: S.2.2.1, S.2.2.2)
  | _ => none
def e_lload (n j : Nat) (S : AS) : Option (Prop × AS) := match S.2.1[j]? with
  | some (some (.long y)) => some (True, S.1 + n, S.2.1, .long y :: S.2.2.1, S.2.2.2)
  | _ => none
def e_istore (n j : Nat) (S : AS) : Option (Prop × AS) := match S with
  | (pc, ls, .int y :: st, R) => some (True, pc + n, lset ls j (.int y), st, R)
  | _ => none
def e_astore (n j : Nat) (S : AS) : Option (Prop × AS) := match S with
  | (pc, ls, .ref y :: st, R) => some (True, pc + n, lset ls j (.ref y), st, R)
  | _ => none
def e_lstore (n j : Nat) (S : AS) : Option (Prop × AS) := match S with
  | (pc, ls, .long y :: st, R) => some (True, pc + n, lset2 ls j (.long y), st, R)
  | _ => none
def e_iinc (j : Nat) (v : Int32) (S : AS) : Option (Prop × AS) := match S.2.1[j]? with
  | some (some (.int y)) => some (True, S.1 + 3, lset S.2.1 j (.int (y + v)), S.2.2)
  | _ => none
def e_getfield (a b : Nat) (S : AS) : Option (Prop × AS) := match S with
  | (pc, ls, .ref t :: st, M, ks) => some (kd t = a, pc + 3, ls, fvA M a t b :: st, M, ks)
  | _ => none
def e_putfield (a b : Nat) (S : AS) : Option (Prop × AS) := match S with
  | (pc, ls, .int y :: .ref t :: st, M, ks) => if (fk a b).1 = 0 then some (kd t = a, pc + 3, ls, st, stm M t b y, ks) else if (fk a b).1 = 1 then some (kd t = a ∧ (y = 0 ∨ y = 1), pc + 3, ls, st, stm M t b y, ks) else none
  | (pc, ls, .long y :: .ref t :: st, M, ks) => if (fk a b).1 = 2 then some (kd t = a ∧ y.toInt32.toInt64 = y, pc + 3, ls, st, stm M t b y.toInt32, ks) else none
  | (pc, ls, .ref r :: .ref t :: st, M, ks) => if (fk a b).1 = 4 then some (kd t = a ∧ r < 96, pc + 3, ls, st, stm M t b (nI r), ks) else none
  | _ => none
def ev1 (x : AI) (S : AS) : Option (Prop × AS) := match x with
  | (.iconst _, _, _, v) => e_push 1 (.int v) S
  | (.bipush _, _, _, v) => e_push 2 (.int v) S
  | (.sipush _, _, _, v) => e_push 3 (.int v) S
  | (.ldc _, _, _, v) => e_push 2 (.int v) S
  | (.ldc2_w _, _, _, _) => e_push 3 (.long 100) S
  | (.lconst n, _, _, _) => e_push 1 (.long (Int64.ofNat n)) S
  | (.iload_n n, _, _, _) => e_iload 1 n.val S
  | (.iload n, _, _, _) => e_iload 2 n S
  | (.aload_n n, _, _, _) => e_aload 1 n.val S
  | (.aload n, _, _, _) => e_aload 2 n S
  | (.lload_n n, _, _, _) => e_lload 1 n.val S
  | (.lload n, _, _, _) => e_lload 2 n S
  | (.istore_n n, _, _, _) => e_istore 1 n.val S
  | (.istore n, _, _, _) => e_istore 2 n S
  | (.astore_n n, _, _, _) => e_astore 1 n.val S
  | (.astore n, _, _, _) => e_astore 2 n S
  | (.lstore n, _, _, _) => e_lstore 2 n S
  | (.iinc n _, _, _, v) => e_iinc n v S
  | (.getfield _, a, b, _) => e_getfield a b S
  | (.putfield _, a, b, _) => e_putfield a b S
  | (.getstatic _, a, _, _) => e_push 3 (.ref a) S
  | (.goto _, a, _, _) => some (True, a, S.2)
  | (.iadd, _, _, _) => e_iadd S
  | (.isub, _, _, _) => e_isub S
  | (.imul, _, _, _) => e_imul S
  | (.iand, _, _, _) => e_iand S
  | (.ior, _, _, _) => e_ior S
  | (.ixor, _, _, _) => e_ixor S
  | (.ishl, _, _, _) => e_ishl S
  | (.ishr, _, _, _) => e_ishr S
  | (.idiv, _, _, _) => e_idiv S
  | (.irem, _, _, _) => e_irem S
  | (.ineg, _, _, _) => e_ineg S
  | (.i2l, _, _, _) => e_i2l S
  | (.l2i, _, _, _) => e_l2i S
  | (.i2c, _, _, _) => e_i2c S
  | (.lsub, _, _, _) => e_lsub S
  | (.lmul, _, _, _) => e_lmul S
  | (.ldiv, _, _, _) => e_ldiv S
  | (.lcmp, _, _, _) => e_lcmp S
  | (.dup, _, _, _) => e_dup S
  | (.pop, _, _, _) => e_pop S
  | (.dup2, _, _, _) => e_dup2 S
  | (.iaload, _, _, _) => e_iaload S
  | (.iastore, _, _, _) => e_iastore S
  | (.aaload, _, _, _) => e_aaload S
  | (.caload, _, _, _) => e_caload S
  | _ => none
def evs : List AI → AS → Option (Prop × AS)
  | [], S => some (True, S)
  | x :: xs, S => match ev1 x S with
    | some (c, S1) => match evs xs S1 with
      | some (c2, S2) => some (c ∧ c2, S2)
      | none => none
    | none => none
def nxt (pc : Nat) (x : AI) : Nat := match x with
  | (.goto _, a, _, _) => a
  | (i, _, _, _) => pc + ilen i
def okL (q : MI) (o : Nat) : Nat → List AI → Bool
  | _, [] => true
  | pc, x :: xs => okI q o pc x && okL q o (nxt pc x) xs
theorem al_big {t : Nat} : al t < 2 ^ 30 := by
  rcases Nat.lt_or_ge t 98 with h1 | h1
  · have := (by decide +kernel : ∀ t, t < 98 → al t < 2 ^ 30)
    exact this t h1
  · unfold al
    rw [List.getD_eq_getElem?_getD, List.getElem?_eq_none (by show alL.length ≤ t; exact h1)]
    decide
theorem rl_big {t : Nat} : rl t < 2 ^ 30 := by
  rcases Nat.lt_or_ge t 96 with h1 | h1
  · have := (by decide +kernel : ∀ t, t < 96 → rl t < 2 ^ 30)
    exact this t h1
  · unfold rl
    rw [List.getD_eq_getElem?_getD, List.getElem?_eq_none (by show rlL.length ≤ t; exact h1)]
    decide
theorem in_al {t k : Nat} (h : k < al t) : vp_in (nI k) (al t) := vp_in_nI h (by have := @al_big t; omega)
theorem in_rl {t k : Nat} (h : k < rl t) : vp_in (nI k) (rl t) := vp_in_nI h (by have := @rl_big t; omega)
theorem cl_al {t k : Nat} (h : k < al t) : (nI k).toNatClampNeg = k := nI_clamp (by have := @al_big t; omega)
theorem cl_rl {t k : Nat} (h : k < rl t) : (nI k).toNatClampNeg = k := nI_clamp (by have := @rl_big t; omega)
section EV
variable {q : MI} {o : Nat} {Post : Option Value → Mem → Prop}
abbrev GA (q : MI) (S : AS) (Post : Option Value → Mem → Prop) : Prop := G q S.1 S.2.1 S.2.2.1 S.2.2.2.1 Post
theorem s_iadd {S S' : AS} {c : Prop} (hd : decode q.cc S.1 = .ok (.iadd, 1)) (h : e_iadd S = some (c, S')) (hc : c) (k : GA q S' Post) : GA q S Post := by
  unfold e_iadd at h
  split at h
  · cases h; exact g_iadd hd k
  · cases h
theorem s_isub {S S' : AS} {c : Prop} (hd : decode q.cc S.1 = .ok (.isub, 1)) (h : e_isub S = some (c, S')) (hc : c) (k : GA q S' Post) : GA q S Post := by
  unfold e_isub at h
  split at h
  · cases h; exact g_isub hd k
  · cases h
theorem s_imul {S S' : AS} {c : Prop} (hd : decode q.cc S.1 = .ok (.imul, 1)) (h : e_imul S = some (c, S')) (hc : c) (k : GA q S' Post) : GA q S Post := by
  unfold e_imul at h
  split at h
  · cases h; exact g_imul hd k
  · cases h
theorem s_iand {S S' : AS} {c : Prop} (hd : decode q.cc S.1 = .ok (.iand, 1)) (h : e_iand S = some (c, S')) (hc : c) (k : GA q S' Post) : GA q S Post := by
  unfold e_iand at h
  split at h
  · cases h; exact g_iand hd k
  · cases h
theorem s_ior {S S' : AS} {c : Prop} (hd : decode q.cc S.1 = .ok (.ior, 1)) (h : e_ior S = some (c, S')) (hc : c) (k : GA q S' Post) : GA q S Post := by
  unfold e_ior at h
  split at h
  · cases h; exact g_ior hd k
  · cases h
theorem s_ixor {S S' : AS} {c : Prop} (hd : decode q.cc S.1 = .ok (.ixor, 1)) (h : e_ixor S = some (c, S')) (hc : c) (k : GA q S' Post) : GA q S Post := by
  unfold e_ixor at h
  split at h
  · cases h; exact g_ixor hd k
  · cases h
theorem s_ishl {S S' : AS} {c : Prop} (hd : decode q.cc S.1 = .ok (.ishl, 1)) (h : e_ishl S = some (c, S')) (hc : c) (k : GA q S' Post) : GA q S Post := by
  unfold e_ishl at h
  split at h
  · cases h; exact g_ishl hd k
  · cases h
theorem s_ishr {S S' : AS} {c : Prop} (hd : decode q.cc S.1 = .ok (.ishr, 1)) (h : e_ishr S = some (c, S')) (hc : c) (k : GA q S' Post) : GA q S Post := by
  unfold e_ishr at h
  split at h
  · cases h; exact g_ishr hd k
  · cases h
theorem s_lsub {S S' : AS} {c : Prop} (hd : decode q.cc S.1 = .ok (.lsub, 1)) (h : e_lsub S = some (c, S')) (hc : c) (k : GA q S' Post) : GA q S Post := by
  unfold e_lsub at h
  split at h
  · cases h; exact g_lsub hd k
  · cases h
theorem s_lmul {S S' : AS} {c : Prop} (hd : decode q.cc S.1 = .ok (.lmul, 1)) (h : e_lmul S = some (c, S')) (hc : c) (k : GA q S' Post) : GA q S Post := by
  unfold e_lmul at h
  split at h
  · cases h; exact g_lmul hd k
  · cases h
theorem s_lcmp {S S' : AS} {c : Prop} (hd : decode q.cc S.1 = .ok (.lcmp, 1)) (h : e_lcmp S = some (c, S')) (hc : c) (k : GA q S' Post) : GA q S Post := by
  unfold e_lcmp at h
  split at h
  · cases h; exact g_lcmp hd k
  · cases h
theorem s_idiv {S S' : AS} {c : Prop} (hd : decode q.cc S.1 = .ok (.idiv, 1)) (h : e_idiv S = some (c, S')) (hc : c) (k : GA q S' Post) : GA q S Post := by
  unfold e_idiv at h
  split at h
  · cases h; exact g_idiv hd hc k
  · cases h
theorem s_irem {S S' : AS} {c : Prop} (hd : decode q.cc S.1 = .ok (.irem, 1)) (h : e_irem S = some (c, S')) (hc : c) (k : GA q S' Post) : GA q S Post := by
  unfold e_irem at h
  split at h
  · cases h; exact g_irem hd hc k
  · cases h
theorem s_ldiv {S S' : AS} {c : Prop} (hd : decode q.cc S.1 = .ok (.ldiv, 1)) (h : e_ldiv S = some (c, S')) (hc : c) (k : GA q S' Post) : GA q S Post := by
  unfold e_ldiv at h
  split at h
  · cases h; exact g_ldiv hd hc k
  · cases h
theorem s_ineg {S S' : AS} {c : Prop} (hd : decode q.cc S.1 = .ok (.ineg, 1)) (h : e_ineg S = some (c, S')) (hc : c) (k : GA q S' Post) : GA q S Post := by
  unfold e_ineg at h
  split at h
  · cases h; exact g_ineg hd k
  · cases h
theorem s_i2l {S S' : AS} {c : Prop} (hd : decode q.cc S.1 = .ok (.i2l, 1)) (h : e_i2l S = some (c, S')) (hc : c) (k : GA q S' Post) : GA q S Post := by
  unfold e_i2l at h
  split at h
  · cases h; exact g_i2l hd k
  · cases h
theorem s_l2i {S S' : AS} {c : Prop} (hd : decode q.cc S.1 = .ok (.l2i, 1)) (h : e_l2i S = some (c, S')) (hc : c) (k : GA q S' Post) : GA q S Post := by
  unfold e_l2i at h
  split at h
  · cases h; exact g_l2i hd k
  · cases h
theorem s_i2c {S S' : AS} {c : Prop} (hd : decode q.cc S.1 = .ok (.i2c, 1)) (h : e_i2c S = some (c, S')) (hc : c) (k : GA q S' Post) : GA q S Post := by
  unfold e_i2c at h
  split at h
  · cases h; exact g_i2c hd k
  · cases h
theorem s_dup {S S' : AS} {c : Prop} (hd : decode q.cc S.1 = .ok (.dup, 1)) (h : e_dup S = some (c, S')) (hc : c) (k : GA q S' Post) : GA q S Post := by
  unfold e_dup at h
  split at h
  · cases h; exact g_dup hd hc k
  · cases h
theorem s_pop {S S' : AS} {c : Prop} (hd : decode q.cc S.1 = .ok (.pop, 1)) (h : e_pop S = some (c, S')) (hc : c) (k : GA q S' Post) : GA q S Post := by
  unfold e_pop at h
  split at h
  · cases h; exact g_pop hd hc k
  · cases h
theorem s_dup2 {S S' : AS} {c : Prop} (hd : decode q.cc S.1 = .ok (.dup2, 1)) (h : e_dup2 S = some (c, S')) (hc : c) (k : GA q S' Post) : GA q S Post := by
  unfold e_dup2 at h
  split at h
  · cases h; exact g_dup2 hd hc.1 hc.2 k
  · cases h
theorem s_iaload {S S' : AS} {c : Prop} (hd : decode q.cc S.1 = .ok (.iaload, 1)) (h : e_iaload S = some (c, S')) (hc : c) (k : GA q S' Post) : GA q S Post := by
  unfold e_iaload at h
  split at h
  · cases h
    obtain ⟨rfl, h2⟩ := hc
    refine g_iaload hd (in_al h2) ?_
    rw [cl_al h2]; exact k
  · cases h
theorem s_iastore {S S' : AS} {c : Prop} (hd : decode q.cc S.1 = .ok (.iastore, 1)) (h : e_iastore S = some (c, S')) (hc : c) (k : GA q S' Post) : GA q S Post := by
  unfold e_iastore at h
  split at h
  · cases h
    obtain ⟨rfl, h2, h3⟩ := hc
    refine g_iastore hd (in_al h2) h3 ?_
    rw [cl_al h2]; exact k
  · cases h
theorem s_aaload {S S' : AS} {c : Prop} (hd : decode q.cc S.1 = .ok (.aaload, 1)) (h : e_aaload S = some (c, S')) (hc : c) (k : GA q S' Post) : GA q S Post := by
  unfold e_aaload at h
  split at h
  · cases h
    obtain ⟨rfl, h2⟩ := hc
    refine g_aaload hd (in_rl h2) ?_
    rw [cl_rl h2]; exact k
  · cases h
theorem s_caload {S S' : AS} {c : Prop} (hd : decode q.cc S.1 = .ok (.caload, 1)) (h : e_caload S = some (c, S')) (hc : c) (k : GA q S' Post) : GA q S Post := by
  unfold e_caload at h
  split at h
  · cases h
    obtain ⟨rfl, h2, rfl⟩ := hc
    refine g_caload hd (vp_in_nI h2 (by omega)) ?_
    rw [nI_clamp (by omega)]; exact k
  · cases h
theorem s_getfield {i a b : Nat} {S S' : AS} {c : Prop} (ho : q.y.cls = Rn o) (hd : decode q.cc S.1 = .ok (.getfield i, 3)) (hf : FT.contains (o, i, a, b) = true) (h : e_getfield a b S = some (c, S')) (hc : c) (k : GA q S' Post) : GA q S Post := by
  unfold e_getfield at h
  split at h
  · cases h
    exact g_getfield hd (by rw [ho]; exact (FT_ok hf).1) (FT_ok hf).2.1 (FT_ok hf).2.2 hc k
  · cases h
theorem fv0 {M : Mem} {c t k : Nat} {x : Int32} (h : (fk c k).1 = 0 ∨ (fk c k).1 = 1) : fvA (stm M t k x) c t k = .int x := by
  unfold fvA
  split
  · next e => rw [e] at h; omega
  · next e => rw [e] at h; omega
  · next e => rw [e] at h; omega
  · next e => rw [e] at h; omega
  · rw [stm_self]
theorem fv2 {M : Mem} {c t k : Nat} {x : Int32} (h : (fk c k).1 = 2) : fvA (stm M t k x) c t k = .long x.toInt64 := by
  unfold fvA
  split
  · rw [stm_self]
  · next e => rw [e] at h; omega
  · next e => rw [e] at h; omega
  · next e => rw [e] at h; omega
  · next h2 _ _ _ => exact absurd (Prod.ext h rfl : fk c k = (2, (fk c k).2)) (h2 _)
theorem fv4 {M : Mem} {c t k r : Nat} (h : (fk c k).1 = 4) (hr : r < 96) : fvA (stm M t k (nI r)) c t k = .ref r := by
  unfold fvA
  split
  · next e => rw [e] at h; omega
  · next e => rw [e] at h; omega
  · rw [stm_self, nI_clamp (by omega)]
  · next e => rw [e] at h; omega
  · next _ _ h2 _ => exact absurd (Prod.ext h rfl : fk c k = (4, (fk c k).2)) (h2 _)
theorem s_putfield {i a b : Nat} {S S' : AS} {c : Prop} (ho : q.y.cls = Rn o) (hd : decode q.cc S.1 = .ok (.putfield i, 3)) (hf : FT.contains (o, i, a, b) = true) (hfin : (Tn a b).2.2.2 = false) (hty : ((fk a b).1 = 0 ∧ tyn a b = .int) ∨ ((fk a b).1 = 1 ∧ tyn a b = .boolean) ∨ ((fk a b).1 = 2 ∧ tyn a b = .long) ∨ ((fk a b).1 = 4 ∧ tyn a b = .object RX3)) (h : e_putfield a b S = some (c, S')) (hc : c) (k : GA q S' Post) : GA q S Post := by
  unfold e_putfield at h
  split at h
  · split at h
    · next e =>
      cases h
      have ht : tyn a b = .int := by
        rcases hty with h | h | h | h
        · exact h.2
        · omega
        · omega
        · omega
      exact g_putfield hd (by rw [ho]; exact (FT_ok hf).1) (FT_ok hf).2.1 (FT_ok hf).2.2 hfin hc (fv0 (Or.inl e)) (fun ad => by rw [ht]; rfl) (fun ad => by rw [ht]; rfl) k
    · split at h
      · next e =>
        cases h
        have ht : tyn a b = .boolean := by
          rcases hty with h | h | h | h
          · omega
          · exact h.2
          · omega
          · omega
        refine g_putfield hd (by rw [ho]; exact (FT_ok hf).1) (FT_ok hf).2.1 (FT_ok hf).2.2 hfin hc.1 (fv0 (Or.inr e)) (fun ad => ?_) (fun ad => ?_) k
        · rw [ht]
          rcases hc.2 with rfl | rfl <;> rfl
        · rw [ht]
          rcases hc.2 with rfl | rfl <;> rfl
      · cases h
  · split at h
    · next e =>
      cases h
      have ht : tyn a b = .long := by
        rcases hty with h | h | h | h
        · omega
        · omega
        · exact h.2
        · omega
      refine g_putfield hd (by rw [ho]; exact (FT_ok hf).1) (FT_ok hf).2.1 (FT_ok hf).2.2 hfin hc.1 (by rw [fv2 e, hc.2]) (fun ad => by rw [ht]; rfl) (fun ad => by rw [ht]; rfl) k
    · cases h
  · split at h
    · next e =>
      cases h
      have ht : tyn a b = .object RX3 := by
        rcases hty with h | h | h | h
        · omega
        · omega
        · omega
        · exact h.2
      refine g_putfield hd (by rw [ho]; exact (FT_ok hf).1) (FT_ok hf).2.1 (FT_ok hf).2.2 hfin hc.1 (fv4 e hc.2) (fun ad => by rw [ht]; rfl) (fun ad => by rw [ht]; rfl) k
    · cases h
  · cases h
theorem s_iload_n {n : Fin 4} {S S' : AS} {c : Prop} (hd : decode q.cc S.1 = .ok (.iload_n n, 1)) (h : e_iload 1 n.val S = some (c, S')) (hc : c) (k : GA q S' Post) : GA q S Post := by
  unfold e_iload at h
  split at h
  · next e => cases h; exact g_iload_n hd e k
  · cases h
theorem s_iload {n : Nat} {S S' : AS} {c : Prop} (hd : decode q.cc S.1 = .ok (.iload n, 2)) (h : e_iload 2 n S = some (c, S')) (hc : c) (k : GA q S' Post) : GA q S Post := by
  unfold e_iload at h
  split at h
  · next e => cases h; exact g_iload hd e k
  · cases h
theorem s_aload_n {n : Fin 4} {S S' : AS} {c : Prop} (hd : decode q.cc S.1 = .ok (.aload_n n, 1)) (h : e_aload 1 n.val S = some (c, S')) (hc : c) (k : GA q S' Post) : GA q S Post := by
  unfold e_aload at h
  split at h
  · next e => cases h; exact g_aload_n hd e k
  · cases h
theorem s_aload {n : Nat} {S S' : AS} {c : Prop} (hd : decode q.cc S.1 = .ok (.aload n, 2)) (h : e_aload 2 n S = some (c, S')) (hc : c) (k : GA q S' Post) : GA q S Post := by
  unfold e_aload at h
  split at h
  · next e => cases h; exact g_aload hd e k
  · cases h
theorem s_lload_n {n : Fin 4} {S S' : AS} {c : Prop} (hd : decode q.cc S.1 = .ok (.lload_n n, 1)) (h : e_lload 1 n.val S = some (c, S')) (hc : c) (k : GA q S' Post) : GA q S Post := by
  unfold e_lload at h
  split at h
  · next e => cases h; exact g_lload_n hd e k
  · cases h
theorem s_lload {n : Nat} {S S' : AS} {c : Prop} (hd : decode q.cc S.1 = .ok (.lload n, 2)) (h : e_lload 2 n S = some (c, S')) (hc : c) (k : GA q S' Post) : GA q S Post := by
  unfold e_lload at h
  split at h
  · next e => cases h; exact g_lload hd e k
  · cases h
theorem s_istore_n {n : Fin 4} {S S' : AS} {c : Prop} (hd : decode q.cc S.1 = .ok (.istore_n n, 1)) (hn : n.val < q.ml) (h : e_istore 1 n.val S = some (c, S')) (hc : c) (k : GA q S' Post) : GA q S Post := by
  unfold e_istore at h
  split at h
  · cases h; exact g_istore_n hd hn k
  · cases h
theorem s_istore {n : Nat} {S S' : AS} {c : Prop} (hd : decode q.cc S.1 = .ok (.istore n, 2)) (hn : n < q.ml) (h : e_istore 2 n S = some (c, S')) (hc : c) (k : GA q S' Post) : GA q S Post := by
  unfold e_istore at h
  split at h
  · cases h; exact g_istore hd hn k
  · cases h
theorem s_astore_n {n : Fin 4} {S S' : AS} {c : Prop} (hd : decode q.cc S.1 = .ok (.astore_n n, 1)) (hn : n.val < q.ml) (h : e_astore 1 n.val S = some (c, S')) (hc : c) (k : GA q S' Post) : GA q S Post := by
  unfold e_astore at h
  split at h
  · cases h; exact g_astore_n hd hn k
  · cases h
theorem s_astore {n : Nat} {S S' : AS} {c : Prop} (hd : decode q.cc S.1 = .ok (.astore n, 2)) (hn : n < q.ml) (h : e_astore 2 n S = some (c, S')) (hc : c) (k : GA q S' Post) : GA q S Post := by
  unfold e_astore at h
  split at h
  · cases h; exact g_astore hd hn k
  · cases h
theorem s_iinc {n : Nat} {d : Int} {v : Int32} {S S' : AS} {c : Prop} (hd : decode q.cc S.1 = .ok (.iinc n d, 3)) (hv : Int32.ofInt d = v) (hn : n < q.ml) (h : e_iinc n v S = some (c, S')) (hc : c) (k : GA q S' Post) : GA q S Post := by
  unfold e_iinc at h
  split at h
  · next e => cases h; exact g_iinc hd e hv hn k
  · cases h
end EV
end
section
section EW
variable {q : MI} {o : Nat} {Post : Option Value → Mem → Prop}
theorem lset2_get {ls : List (Option Value)} {i : Nat} {v : Value} {j : Nat} {w : Value} (h : (lset2 ls i v)[j]? = some (some w)) : (j = i ∧ w = v) ∨ (j ≠ i ∧ j ≠ i + 1 ∧ ls[j]? = some (some w) ∧ ¬ (j + 1 = i ∧ w.category = 2)) := by
  unfold lset2 at h
  by_cases e : j = i + 1
  · subst e
    rw [List.getElem?_set] at h
    simp at h
  · rw [List.getElem?_set_ne (by omega)] at h
    rcases lset_get h with h1 | ⟨h1, h2, h3⟩
    · exact Or.inl h1
    · exact Or.inr ⟨h1, e, h2, h3⟩
theorem g_lstore {pc n : Nat} {ls : List (Option Value)} {st : List Value} {M : Mem} {x : Int64} (hd : decode q.cc pc = .ok (.lstore n, 2)) (hn : n + 1 < q.ml) (k : G q (pc + 2) (lset2 ls n (.long x)) st M Post) : G q pc ls (.long x :: st) M Post := by
  intro D κ ad p l e s m args below meth c H locs la C hW hS hl
  refine lv_lstore C.1 C.2.1 hd hl.has hn rfl (fun la' h' => k D κ ad p l e s m args below meth c H locs la' C hW hS (lvs.of h' (fun j w hw => ?_)))
  rcases lset2_get hw with ⟨rfl, rfl⟩ | ⟨h1, h1', h2, h3⟩
  · exact List.mem_cons_self
  · refine List.mem_cons_of_mem _ (List.mem_filter.mpr ⟨prs_in.mpr ⟨w, h2, rfl⟩, ?_⟩)
    simp only [Bool.and_eq_true, Bool.not_eq_true', beq_eq_false_iff_ne, ne_eq, Bool.and_eq_false_iff, cv_cat]
    by_cases e : j + 1 = n
    · exact ⟨h1, h1', Or.inr fun z => h3 ⟨e, z⟩⟩
    · exact ⟨h1, h1', Or.inl e⟩
theorem s_lstore {n : Nat} {S S' : AS} {c : Prop} (hd : decode q.cc S.1 = .ok (.lstore n, 2)) (hn : n + 1 < q.ml) (h : e_lstore 2 n S = some (c, S')) (hc : c) (k : GA q S' Post) : GA q S Post := by
  unfold e_lstore at h
  split at h
  · cases h; exact g_lstore hd hn k
  · cases h
theorem ev1_pc {x : AI} {S S' : AS} {c : Prop} (h : ev1 x S = some (c, S')) : S'.1 = nxt S.1 x := by
  unfold ev1 at h
  split at h
  all_goals first
    | (cases h; done)
    | (cases h; rfl)
    | (simp only [e_push, e_iload, e_aload, e_lload, e_istore, e_astore, e_lstore, e_iinc, e_getfield, e_putfield, e_iadd, e_isub, e_imul, e_iand, e_ior, e_ixor, e_ishl, e_ishr, e_idiv, e_irem, e_ineg, e_i2l, e_l2i, e_i2c, e_lsub, e_lmul, e_ldiv, e_lcmp, e_dup, e_pop, e_dup2, e_iaload, e_iastore, e_aaload, e_caload] at h
       repeat' split at h
       all_goals first | (cases h; done) | (cases h; rfl))
theorem ev1_sound (ho : q.y.cls = Rn o) {x : AI} {S S' : AS} {c : Prop} (hok : okI q o S.1 x = true) (h : ev1 x S = some (c, S')) (hc : c) (k : GA q S' Post) : GA q S Post := by
  unfold okI at hok
  rw [Bool.and_eq_true] at hok
  obtain ⟨hd0, hok⟩ := hok
  have hd := of_decide_eq_true hd0
  unfold ev1 at h
  split at h
  all_goals first
    | exact s_iadd hd h hc k
    | exact s_isub hd h hc k
    | exact s_imul hd h hc k
    | exact s_iand hd h hc k
    | exact s_ior hd h hc k
    | exact s_ixor hd h hc k
    | exact s_ishl hd h hc k
    | exact s_ishr hd h hc k
    | exact s_idiv hd h hc k
    | exact s_irem hd h hc k
    | exact s_ineg hd h hc k
    | exact s_i2l hd h hc k
    | exact s_l2i hd h hc k
    | exact s_i2c hd h hc k
    | exact s_lsub hd h hc k
    | exact s_lmul hd h hc k
    | exact s_ldiv hd h hc k
    | exact s_lcmp hd h hc k
    | exact s_dup hd h hc k
    | exact s_pop hd h hc k
    | exact s_dup2 hd h hc k
    | exact s_iaload hd h hc k
    | exact s_iastore hd h hc k
    | exact s_aaload hd h hc k
    | exact s_caload hd h hc k
    | exact s_iload_n hd h hc k
    | exact s_aload_n hd h hc k
    | exact s_lload_n hd h hc k
    | exact s_iload hd h hc k
    | exact s_aload hd h hc k
    | exact s_lload hd h hc k
    | exact s_istore_n hd (of_decide_eq_true hok) h hc k
    | exact s_istore hd (of_decide_eq_true hok) h hc k
    | exact s_astore_n hd (of_decide_eq_true hok) h hc k
    | exact s_astore hd (of_decide_eq_true hok) h hc k
    | exact s_lstore hd (of_decide_eq_true hok) h hc k
    | exact s_iinc hd (of_decide_eq_true (Bool.and_eq_true _ _ ▸ hok).1) (of_decide_eq_true (Bool.and_eq_true _ _ ▸ hok).2) h hc k
    | exact s_getfield ho hd hok h hc k
    | (cases h; exact g_iconst hd (of_decide_eq_true hok) k)
    | (cases h; exact g_bipush hd (of_decide_eq_true hok) k)
    | (cases h; exact g_sipush hd (of_decide_eq_true hok) k)
    | (cases h; exact g_lconst hd k)
    | (cases h; exact g_ldc hd (by rw [ho]; exact CT_ok hok) k)
    | (cases h
       have h2 := of_decide_eq_true hok
       obtain ⟨rfl, rfl⟩ := h2
       exact g_ldc2 hd (by rw [ho]; exact CL_ok) k)
    | (cases h; exact g_goto hd (of_decide_eq_true hok) k)
    | (have h2 := of_decide_eq_true hok
       cases h
       obtain ⟨rfl, h3⟩ := h2
       rcases h3 with ⟨rfl, rfl⟩ | ⟨rfl, rfl⟩
       · exact g_letters hd (by rw [ho]; exact S_6_155) k
       · exact g_equal hd (by rw [ho]; exact S_6_206) k)
    | (simp only [Bool.and_eq_true] at hok
       exact s_putfield ho hd hok.1.1 (of_decide_eq_true hok.1.2) (of_decide_eq_true hok.2) h hc k)
    | cases h
theorem evs_sound (ho : q.y.cls = Rn o) : ∀ (xs : List AI) {S S' : AS} {c : Prop}, okL q o S.1 xs = true → evs xs S = some (c, S') → c → GA q S' Post → GA q S Post
  | [], S, S', c, _, h, _, k => by
    cases h
    exact k
  | x :: xs, S, S', c, hok, h, hc, k => by
    unfold evs at h
    split at h
    · next c1 S1 e1 =>
      split at h
      · next c2 S2 e2 =>
        cases h
        unfold okL at hok
        rw [Bool.and_eq_true] at hok
        refine ev1_sound ho hok.1 e1 hc.1 (evs_sound ho xs (c := c2) ?_ e2 hc.2 k)
        rw [ev1_pc e1]
        exact hok.2
      · cases h
    · cases h
/-- A BLOCK: from here to there, if its conditions hold -/
theorem blk (o : Nat) (xs : List AI) (ks : List Nat) {pc : Nat} {ls : List (Option Value)} {st : List Value} {M : Mem} (hok : okL q o pc xs = true) (ho : q.y.cls = Rn o) {c : Prop} {pc' : Nat} {ls' : List (Option Value)} {st' : List Value} {M' : Mem} (h : evs xs (pc, ls, st, M, ks) = some (c, pc', ls', st', M', [])) (hc : c) (k : G q pc' ls' st' M' Post) : G q pc ls st M Post :=
  evs_sound (S := (pc, ls, st, M, ks)) (S' := (pc', ls', st', M', [])) ho xs hok h hc k
end EW
end
section
/-! leaves: rows of a sheet -/
def lsub : List (Option Value) → List (Option Value) → Prop
  | [], _ => True
  | _ :: _, [] => False
  | none :: a, _ :: b => lsub a b
  | some v :: a, w :: b => w = some v ∧ lsub a b
theorem lsub_get : ∀ {a b : List (Option Value)}, lsub a b → ∀ (i : Nat) (v : Value), a[i]? = some (some v) → b[i]? = some (some v)
  | [], _, _, i, v, h => by simp at h
  | none :: a, [], hs, _, _, _ => hs.elim
  | some _ :: a, [], hs, _, _, _ => hs.elim
  | none :: a, x :: b, hs, i, v, h => by
    cases i with
    | zero => simp at h
    | succ i => simp at h ⊢; exact lsub_get (a := a) (b := b) hs i v h
  | some y :: a, x :: b, hs, i, v, h => by
    cases i with
    | zero => simp at h ⊢; rw [hs.1, h]
    | succ i => simp at h ⊢; exact lsub_get (a := a) (b := b) hs.2 i v h
/-- fewer locals are said -/
theorem G.sub {q : MI} {pc : Nat} {ls ls' : List (Option Value)} {st : List Value} {M : Mem} {Post : Option Value → Mem → Prop} (k : G q pc ls' st M Post) (h : lsub ls' ls) : G q pc ls st M Post := by
  intro D κ ad p l e s m args below meth c H locs la C hW hS hl
  exact k D κ ad p l e s m args below meth c H locs la C hW hS ⟨hl.1, hl.2.1, fun i v hv => hl.2.2 i v (lsub_get h i v hv)⟩
/-- a method that answers v and leaves the memory -/
abbrev Ret (v : Int32) (M : Mem) : Option Value → Mem → Prop := fun r M' => r = some (.int v) ∧ M' = M
theorem nI_s1 (n : Nat) : nI (n + 1) - nI 1 = nI n := nI_pred n
theorem n0_lit : nI 0 = 0 := nI_0
theorem n1_lit : nI 1 = 1 := by decide +kernel
/-- the sum of the first n terms -/
def psum (f : Nat → Int32) : Nat → Int32
  | 0 => 0
  | n + 1 => psum f n + f n
theorem psum_congr {f g : Nat → Int32} {n : Nat} (h : ∀ j, j < n → f j = g j) : psum f n = psum g n := by
  induction n with
  | zero => rfl
  | succ n ih => rw [psum, psum, ih (fun j hj => h j (by omega)), h n (by omega)]
theorem s_place (M : Mem) (i j : Int32) : Spec mX1_place [.ref 4, .int i, .int j] M (Ret (i * (M 8 3 + nI 1) + j) M) := by
  refine Spec.of (by decide) (by simp [Value.category]) (Nat.le_of_ble_eq_true rfl) ?_
  refine blk 1 [(.iload_n 1, 0, 0, 0), (.aload_n 0, 0, 0, 0), (.getfield 18, 1, 2, 0), (.getfield 50, 4, 3, 0), (.iconst 1, 0, 0, (nI 1)), (.iadd, 0, 0, 0), (.imul, 0, 0, 0), (.iload_n 2, 0, 0, 0), (.iadd, 0, 0, 0)] [] (by decide +kernel) rfl (pc' := 13) (ls' := [some (.ref 4), some (.int i), some (.int j)]) (st' := [.int ((i * ((M 8 3) + (nI 1))) + j)]) (M' := M) rfl ⟨trivial, trivial, rfl, rfl, trivial, trivial, trivial, trivial, trivial, trivial⟩ ?_
  exact g_ireturn (by decide +kernel) rfl rfl ⟨rfl, rfl⟩
/-- is a word in a set? 0 or 1 -/
def hbit (S : Int32) (w : Nat) : Int32 := (S >>> (nI w &&& 31)) &&& nI 1
def hb (S : Int32) (w : Nat) : Int32 := if hbit S w = 0 then 0 else 1
theorem s_holds (M : Mem) (S : Int32) (w : Nat) : Spec mX6_holds [.int S, .int (nI w)] M (Ret (hb S w) M) := by
  refine Spec.of (by decide) (by simp [Value.category]) (Nat.le_of_ble_eq_true rfl) ?_
  refine blk 6 [(.iload_n 0, 0, 0, 0), (.iload_n 1, 0, 0, 0), (.ishr, 0, 0, 0), (.iconst 1, 0, 0, (nI 1)), (.iand, 0, 0, 0)] [] (by decide +kernel) rfl (pc' := 5) (ls' := [some (.int S), some (.int (nI w))]) (st' := [.int ((S >>> ((nI w) &&& 31)) &&& (nI 1))]) (M' := M) rfl ⟨trivial, trivial, trivial, trivial, trivial, trivial⟩ ?_
  refine g_if_eq (off := 7) (tgt := 12) (by decide +kernel) (by decide) (fun c1 => ?_) (fun c1 => ?_)
  · refine blk 6 [(.iconst 0, 0, 0, (nI 0))] [] (by decide +kernel) rfl (pc' := 13) (ls' := [some (.int S), some (.int (nI w))]) (st' := [.int (nI 0)]) (M' := M) rfl ⟨trivial, trivial⟩ ?_
    exact g_ireturn (by decide +kernel) rfl (by decide) ⟨by unfold hb hbit; simp_all [nI_0, n1_lit], rfl⟩
  · refine blk 6 [(.iconst 1, 0, 0, (nI 1)), (.goto (4), 13, 0, 0)] [] (by decide +kernel) rfl (pc' := 13) (ls' := [some (.int S), some (.int (nI w))]) (st' := [.int (nI 1)]) (M' := M) rfl ⟨trivial, trivial, trivial⟩ ?_
    exact g_ireturn (by decide +kernel) rfl (by decide) ⟨by unfold hb hbit; simp_all [nI_0, n1_lit], rfl⟩
def tupF (M : Mem) (t : Nat) (x y : Int32) : Nat → Int32 := fun j => if M (t + 5) j = x ∧ M (t + 5) (j + 1) = y then 1 else 0
theorem l_times {M : Mem} {t w : Nat} {x y : Int32} {Post : Option Value → Mem → Prop} (hk : kd t = 2) (hw : M t 1 = nI w) (hl : w ≤ al (t + 5)) (hp : Post (some (.int (psum (tupF M t x y) (w - 1)))) M) : ∀ d j, d = w - 1 - j → j ≤ w - 1 → G mX2_timesOfTuple 5 [some (.ref t), some (.int x), some (.int y), some (.int (psum (tupF M t x y) j)), some (.int (nI (j + 1)))] [] M Post := by
  have hb := @al_big (t + 5)
  intro d
  induction d using Nat.strongRecOn with
  | ind d ih =>
    intro j hd hj
    refine blk 2 [(.iload 4, 0, 0, 0), (.aload_n 0, 0, 0, 0), (.getfield 15, 2, 1, 0)] [] (by decide +kernel) rfl (pc' := 11) (ls' := [some (.ref t), some (.int x), some (.int y), some (.int (psum (tupF M t x y) j)), some (.int (nI (j + 1)))]) (st' := [.int (M t 1), .int (nI (j + 1))]) (M' := M) rfl ⟨trivial, trivial, (by assumption), trivial⟩ ?_
    refine g_icmp_ge (off := 36) (tgt := 47) (by decide +kernel) (by decide) (fun c1 => ?_) (fun c1 => ?_)
    · have nc1 : w ≤ (j + 1) := (nI_leI (by omega) (by omega)).mp (by simpa only [hw, nI_add, pk_mul, nI_s1, n0_lit] using c1)
      refine blk 2 [(.iload_n 3, 0, 0, 0)] [] (by decide +kernel) rfl (pc' := 48) (ls' := [some (.ref t), some (.int x), some (.int y), some (.int (psum (tupF M t x y) j)), some (.int (nI (j + 1)))]) (st' := [.int (psum (tupF M t x y) j)]) (M' := M) rfl ⟨trivial, trivial⟩ ?_
      have e : j = w - 1 := by omega
      subst e
      exact g_ireturn (by decide +kernel) rfl rfl hp
    · have nc1 : (j + 1) < w := by
        have z : ¬ nI w ≤ nI (j + 1) := by simpa only [hw, nI_add, pk_mul, nI_s1, n0_lit] using c1
        rw [nI_leI (by omega) (by omega)] at z
        omega
      refine blk 2 [(.aload_n 0, 0, 0, 0), (.getfield 9, 2, 0, 0), (.iload 4, 0, 0, 0), (.iconst 1, 0, 0, (nI 1)), (.isub, 0, 0, 0), (.iaload, 0, 0, 0), (.iload_n 1, 0, 0, 0)] [j] (by decide +kernel) rfl (pc' := 24) (ls' := [some (.ref t), some (.int x), some (.int y), some (.int (psum (tupF M t x y) j)), some (.int (nI (j + 1)))]) (st' := [.int x, .int (M (t + 5) j)]) (M' := M) rfl ⟨trivial, (by assumption), trivial, trivial, trivial, ⟨(by simp only [hw, nI_add, pk_mul, nI_s1]), (by omega)⟩, trivial, trivial⟩ ?_
      refine g_icmp_ne (off := 17) (tgt := 41) (by decide +kernel) (by decide) (fun c2 => ?_) (fun c2 => ?_)
      · refine blk 2 [(.iinc 4 1, 0, 0, (nI 1)), (.goto (-39), 5, 0, 0)] [] (by decide +kernel) rfl (pc' := 5) (ls' := [some (.ref t), some (.int x), some (.int y), some (.int (psum (tupF M t x y) j)), some (.int (nI (j + 1) + nI 1))]) (st' := []) (M' := M) rfl ⟨trivial, trivial, trivial⟩ ?_
        have e : psum (tupF M t x y) (j + 1) = psum (tupF M t x y) j := by
          rw [psum, show tupF M t x y j = 0 by simp only [tupF]; simp_all]; exact Int32.add_zero _
        rw [nI_add, ← e]
        exact ih (d - 1) (by omega) (j + 1) (by omega) (by omega)
      · refine blk 2 [(.aload_n 0, 0, 0, 0), (.getfield 9, 2, 0, 0), (.iload 4, 0, 0, 0), (.iaload, 0, 0, 0), (.iload_n 2, 0, 0, 0)] [j + 1] (by decide +kernel) rfl (pc' := 35) (ls' := [some (.ref t), some (.int x), some (.int y), some (.int (psum (tupF M t x y) j)), some (.int (nI (j + 1)))]) (st' := [.int y, .int (M (t + 5) (j + 1))]) (M' := M) rfl ⟨trivial, (by assumption), trivial, ⟨rfl, (by omega)⟩, trivial, trivial⟩ ?_
        refine g_icmp_ne (off := 6) (tgt := 41) (by decide +kernel) (by decide) (fun c3 => ?_) (fun c3 => ?_)
        · refine blk 2 [(.iinc 4 1, 0, 0, (nI 1)), (.goto (-39), 5, 0, 0)] [] (by decide +kernel) rfl (pc' := 5) (ls' := [some (.ref t), some (.int x), some (.int y), some (.int (psum (tupF M t x y) j)), some (.int (nI (j + 1) + nI 1))]) (st' := []) (M' := M) rfl ⟨trivial, trivial, trivial⟩ ?_
          have e : psum (tupF M t x y) (j + 1) = psum (tupF M t x y) j := by
            rw [psum, show tupF M t x y j = 0 by simp only [tupF]; simp_all]; exact Int32.add_zero _
          rw [nI_add, ← e]
          exact ih (d - 1) (by omega) (j + 1) (by omega) (by omega)
        · refine blk 2 [(.iinc 3 1, 0, 0, (nI 1)), (.iinc 4 1, 0, 0, (nI 1)), (.goto (-39), 5, 0, 0)] [] (by decide +kernel) rfl (pc' := 5) (ls' := [some (.ref t), some (.int x), some (.int y), some (.int (psum (tupF M t x y) j + nI 1)), some (.int (nI (j + 1) + nI 1))]) (st' := []) (M' := M) rfl ⟨trivial, trivial, trivial, trivial⟩ ?_
          have e : psum (tupF M t x y) (j + 1) = psum (tupF M t x y) j + nI 1 := by
            rw [psum, show tupF M t x y j = 1 by simp only [tupF]; simp_all]; rfl
          rw [nI_add, ← e]
          exact ih (d - 1) (by omega) (j + 1) (by omega) (by omega)
theorem s_times (M : Mem) {t w : Nat} (x y : Int32) (hk : kd t = 2) (hw : M t 1 = nI w) (hl : w ≤ al (t + 5)) : Spec mX2_timesOfTuple [.ref t, .int x, .int y] M (Ret (psum (tupF M t x y) (w - 1)) M) := by
  refine Spec.of (by decide) (by simp [Value.category]) (Nat.le_of_ble_eq_true rfl) ?_
  refine blk 2 [(.iconst 0, 0, 0, (nI 0)), (.istore_n 3, 0, 0, 0), (.iconst 1, 0, 0, (nI 1)), (.istore 4, 0, 0, 0)] [] (by decide +kernel) rfl (pc' := 5) (ls' := [some (.ref t), some (.int x), some (.int y), some (.int (nI 0)), some (.int (nI 1))]) (st' := []) (M' := M) rfl ⟨trivial, trivial, trivial, trivial, trivial⟩ ?_
  exact l_times hk hw hl ⟨rfl, rfl⟩ _ 0 rfl (by omega)
def sameF (M : Mem) (t u : Nat) : Nat → Int32 := fun j => if M (t + 5) j ≠ -1 ∧ M (t + 5) j = M (u + 5) j then 1 else 0
theorem l_same {M : Mem} {t u w : Nat} {Post : Option Value → Mem → Prop} (hk : kd t = 2) (hk2 : kd u = 2) (hw : M t 1 = nI w) (hl : w ≤ al (t + 5)) (hl2 : w ≤ al (u + 5)) (hp : Post (some (.int (psum (sameF M t u) w))) M) : ∀ d j, d = w - j → j ≤ w → G mX2_sameLettersAs 4 [some (.ref t), some (.ref u), some (.int (psum (sameF M t u) j)), some (.int (nI j))] [] M Post := by
  have hb := @al_big (t + 5)
  intro d
  induction d using Nat.strongRecOn with
  | ind d ih =>
    intro j hd hj
    refine blk 2 [(.iload_n 3, 0, 0, 0), (.aload_n 0, 0, 0, 0), (.getfield 15, 2, 1, 0)] [] (by decide +kernel) rfl (pc' := 9) (ls' := [some (.ref t), some (.ref u), some (.int (psum (sameF M t u) j)), some (.int (nI j))]) (st' := [.int (M t 1), .int (nI j)]) (M' := M) rfl ⟨trivial, trivial, (by assumption), trivial⟩ ?_
    refine g_icmp_ge (off := 37) (tgt := 46) (by decide +kernel) (by decide) (fun c1 => ?_) (fun c1 => ?_)
    · have nc1 : w ≤ j := (nI_leI (by omega) (by omega)).mp (by simpa only [hw, nI_add, pk_mul, nI_s1, n0_lit] using c1)
      refine blk 2 [(.iload_n 2, 0, 0, 0)] [] (by decide +kernel) rfl (pc' := 47) (ls' := [some (.ref t), some (.ref u), some (.int (psum (sameF M t u) j)), some (.int (nI j))]) (st' := [.int (psum (sameF M t u) j)]) (M' := M) rfl ⟨trivial, trivial⟩ ?_
      have e : j = w := by omega
      subst e
      exact g_ireturn (by decide +kernel) rfl rfl hp
    · have nc1 : j < w := by
        have z : ¬ nI w ≤ nI j := by simpa only [hw, nI_add, pk_mul, nI_s1, n0_lit] using c1
        rw [nI_leI (by omega) (by omega)] at z
        omega
      refine blk 2 [(.aload_n 0, 0, 0, 0), (.getfield 9, 2, 0, 0), (.iload_n 3, 0, 0, 0), (.iaload, 0, 0, 0), (.iconst (-1), 0, 0, (-1))] [j] (by decide +kernel) rfl (pc' := 19) (ls' := [some (.ref t), some (.ref u), some (.int (psum (sameF M t u) j)), some (.int (nI j))]) (st' := [.int (-1), .int (M (t + 5) j)]) (M' := M) rfl ⟨trivial, (by assumption), trivial, ⟨rfl, (by omega)⟩, trivial, trivial⟩ ?_
      refine g_icmp_eq (off := 21) (tgt := 40) (by decide +kernel) (by decide) (fun c2 => ?_) (fun c2 => ?_)
      · refine blk 2 [(.iinc 3 1, 0, 0, (nI 1)), (.goto (-39), 4, 0, 0)] [] (by decide +kernel) rfl (pc' := 4) (ls' := [some (.ref t), some (.ref u), some (.int (psum (sameF M t u) j)), some (.int (nI j + nI 1))]) (st' := []) (M' := M) rfl ⟨trivial, trivial, trivial⟩ ?_
        have e : psum (sameF M t u) (j + 1) = psum (sameF M t u) j := by
          rw [psum, show sameF M t u j = 0 by simp only [sameF]; simp_all]; exact Int32.add_zero _
        rw [nI_add, ← e]
        exact ih (d - 1) (by omega) (j + 1) (by omega) (by omega)
      · refine blk 2 [(.aload_n 0, 0, 0, 0), (.getfield 9, 2, 0, 0), (.iload_n 3, 0, 0, 0), (.iaload, 0, 0, 0), (.aload_n 1, 0, 0, 0), (.getfield 9, 2, 0, 0), (.iload_n 3, 0, 0, 0), (.iaload, 0, 0, 0)] [j, j] (by decide +kernel) rfl (pc' := 34) (ls' := [some (.ref t), some (.ref u), some (.int (psum (sameF M t u) j)), some (.int (nI j))]) (st' := [.int (M (u + 5) j), .int (M (t + 5) j)]) (M' := M) rfl ⟨trivial, (by assumption), trivial, ⟨rfl, (by omega)⟩, trivial, (by assumption), trivial, ⟨rfl, (by omega)⟩, trivial⟩ ?_
        refine g_icmp_ne (off := 6) (tgt := 40) (by decide +kernel) (by decide) (fun c3 => ?_) (fun c3 => ?_)
        · refine blk 2 [(.iinc 3 1, 0, 0, (nI 1)), (.goto (-39), 4, 0, 0)] [] (by decide +kernel) rfl (pc' := 4) (ls' := [some (.ref t), some (.ref u), some (.int (psum (sameF M t u) j)), some (.int (nI j + nI 1))]) (st' := []) (M' := M) rfl ⟨trivial, trivial, trivial⟩ ?_
          have e : psum (sameF M t u) (j + 1) = psum (sameF M t u) j := by
            rw [psum, show sameF M t u j = 0 by simp only [sameF]; simp_all]; exact Int32.add_zero _
          rw [nI_add, ← e]
          exact ih (d - 1) (by omega) (j + 1) (by omega) (by omega)
        · refine blk 2 [(.iinc 2 1, 0, 0, (nI 1)), (.iinc 3 1, 0, 0, (nI 1)), (.goto (-39), 4, 0, 0)] [] (by decide +kernel) rfl (pc' := 4) (ls' := [some (.ref t), some (.ref u), some (.int (psum (sameF M t u) j + nI 1)), some (.int (nI j + nI 1))]) (st' := []) (M' := M) rfl ⟨trivial, trivial, trivial, trivial⟩ ?_
          have e : psum (sameF M t u) (j + 1) = psum (sameF M t u) j + nI 1 := by
            rw [psum, show sameF M t u j = 1 by simp only [sameF]; simp_all]; rfl
          rw [nI_add, ← e]
          exact ih (d - 1) (by omega) (j + 1) (by omega) (by omega)
theorem s_same (M : Mem) {t u w : Nat} (hk : kd t = 2) (hk2 : kd u = 2) (hw : M t 1 = nI w) (hl : w ≤ al (t + 5)) (hl2 : w ≤ al (u + 5)) : Spec mX2_sameLettersAs [.ref t, .ref u] M (Ret (psum (sameF M t u) w) M) := by
  refine Spec.of (by decide) (by simp [Value.category]) (Nat.le_of_ble_eq_true rfl) ?_
  refine blk 2 [(.iconst 0, 0, 0, (nI 0)), (.istore_n 2, 0, 0, 0), (.iconst 0, 0, 0, (nI 0)), (.istore_n 3, 0, 0, 0)] [] (by decide +kernel) rfl (pc' := 4) (ls' := [some (.ref t), some (.ref u), some (.int (nI 0)), some (.int (nI 0))]) (st' := []) (M' := M) rfl ⟨trivial, trivial, trivial, trivial, trivial⟩ ?_
  exact l_same hk hk2 hw hl hl2 ⟨rfl, rfl⟩ _ 0 rfl (by omega)
end
section
/-- what copy does: this row t has the width and the cells of row u -/
def copyP (M : Mem) (t u w : Nat) : Option Value → Mem → Prop := fun r N => r = none ∧ N t 1 = nI w ∧ (∀ k, k < w → N (t + 5) k = M (u + 5) k) ∧ ∀ z, z ≠ t → z ≠ t + 5 → N z = M z
theorem s_copy (M : Mem) {t u w : Nat} (hk : kd t = 2) (hk2 : kd u = 2) (hw : M u 1 = nI w) (hl : w ≤ al (t + 5)) (hl2 : w ≤ al (u + 5)) (h0 : t + 5 < 96) (h1 : u + 5 < 96) (k0 : kd (t + 5) = 8) (k1 : kd (u + 5) = 8) (hne : u ≠ t + 5) : Spec mX2_copy [.ref t, .ref u] M (copyP M t u w) := by
  have hb := @al_big (t + 5)
  refine Spec.of (by decide) (by simp [Value.category]) (Nat.le_of_ble_eq_true rfl) ?_
  refine blk 2 [(.aload_n 1, 0, 0, 0), (.getfield 9, 2, 0, 0), (.iconst 0, 0, 0, (nI 0)), (.aload_n 0, 0, 0, 0), (.getfield 9, 2, 0, 0), (.iconst 0, 0, 0, (nI 0)), (.aload_n 1, 0, 0, 0), (.getfield 15, 2, 1, 0)] [] (by decide +kernel) rfl (pc' := 14) (ls' := [some (.ref t), some (.ref u)]) (st' := [.int (M u 1), .int (nI 0), .ref (t + 5), .int (nI 0), .ref (u + 5)]) (M' := M) rfl ⟨trivial, (by assumption), trivial, trivial, (by assumption), trivial, trivial, (by assumption), trivial⟩ ?_
  refine g_arraycopy (index := 19) (TB_in (by decide +kernel) (by decide +kernel)) (TB_in (by decide +kernel) (by decide +kernel)) (TB_in (by decide +kernel) (by decide +kernel)) (TB_in (by decide +kernel) (by decide +kernel)) (by decide +kernel) (by decide +kernel) (by decide +kernel) h1 h0 k1 k0 (by decide +kernel) (by decide +kernel) (by rw [hw]; exact nI_pos (by omega)) (by rw [hw, nI_0, sb_cl0, nI_clamp (n := w) (by omega)]; omega) (by rw [hw, nI_0, sb_cl0, nI_clamp (n := w) (by omega)]; omega) ?_
  rw [hw, nI_clamp (n := w) (by omega), nI_0, sb_cl0]
  show G _ 17 [some (.ref t), some (.ref u)] [] (stA M (t + 5) (va_cpy (M (u + 5)) (M (t + 5)) 0 0 w)) _
  generalize hN : stA M (t + 5) (va_cpy (M (u + 5)) (M (t + 5)) 0 0 w) = N
  have hNu : N u 1 = nI w := by rw [← hN, stA_ne (by omega)]; exact hw
  refine blk 2 [(.aload_n 0, 0, 0, 0), (.aload_n 1, 0, 0, 0), (.getfield 15, 2, 1, 0), (.putfield 15, 2, 1, 0)] [] (by decide +kernel) rfl (pc' := 25) (ls' := [some (.ref t), some (.ref u)]) (st' := []) (M' := stm N t 1 (N u 1)) rfl ⟨trivial, trivial, (by assumption), (by assumption), trivial⟩ ?_
  refine g_return (by decide +kernel) rfl ⟨rfl, ?_, fun k hk => ?_, fun z h1 h2 => ?_⟩
  · rw [stm_self]; exact hNu
  · rw [stm_ne (by omega), ← hN, stA_eq, pk_cpy_in (by omega) (by omega)]
    congr 1; omega
  · rw [stm_ne h1, ← hN, stA_ne h2]
def minF (M : Mem) (t u w v i : Nat) : Nat → Int32 := fun j => if psum (tupF M u (nI i) (nI j)) (v - 1) < psum (tupF M t (nI i) (nI j)) (w - 1) then psum (tupF M u (nI i) (nI j)) (v - 1) else psum (tupF M t (nI i) (nI j)) (w - 1)
theorem l_tuples2 {M : Mem} {t u w v i : Nat} {A : Int32} {Post : Option Value → Mem → Prop} (hk : kd t = 2) (hk2 : kd u = 2) (hw : M t 1 = nI w) (hv : M u 1 = nI v) (hl : w ≤ al (t + 5)) (hl2 : v ≤ al (u + 5)) (hp : G mX2_tuplesSharedWith 4 [some (.ref t), some (.ref u), some (.int (A + psum (minF M t u w v i) 4)), some (.int (nI (i + 1))), none] [] M Post) : ∀ d j, d = 4 - j → j ≤ 4 → G mX2_tuplesSharedWith 12 [some (.ref t), some (.ref u), some (.int (A + psum (minF M t u w v i) j)), some (.int (nI i)), some (.int (nI j))] [] M Post := by
  intro d
  induction d using Nat.strongRecOn with
  | ind d ih =>
    intro j hd hj
    refine blk 2 [(.iload 4, 0, 0, 0), (.iconst 4, 0, 0, (nI 4))] [] (by decide +kernel) rfl (pc' := 15) (ls' := [some (.ref t), some (.ref u), some (.int (A + psum (minF M t u w v i) j)), some (.int (nI i)), some (.int (nI j))]) (st' := [.int (nI 4), .int (nI j)]) (M' := M) rfl ⟨trivial, trivial, trivial⟩ ?_
    refine g_icmp_ge (off := 29) (tgt := 44) (by decide +kernel) (by decide) (fun c1 => ?_) (fun c1 => ?_)
    · have nc1 : 4 ≤ j := (nI_leI (by omega) (by omega)).mp (by simpa only [nI_add, pk_mul, nI_s1, n0_lit] using c1)
      refine blk 2 [(.iinc 3 1, 0, 0, (nI 1)), (.goto (-43), 4, 0, 0)] [] (by decide +kernel) rfl (pc' := 4) (ls' := [some (.ref t), some (.ref u), some (.int (A + psum (minF M t u w v i) j)), some (.int (nI i + nI 1)), some (.int (nI j))]) (st' := []) (M' := M) rfl ⟨trivial, trivial, trivial⟩ ?_
      have e : j = 4 := by omega
      subst e
      refine G.sub (ls' := [some (.ref t), some (.ref u), some (.int (A + psum (minF M t u w v i) 4)), some (.int (nI (i + 1))), none]) ?_ ⟨rfl, rfl, congrArg (fun z => some (Value.int z)) rfl, congrArg (fun z => some (Value.int z)) (by simp only [nI_add, nI_s1]), trivial⟩
      exact hp
    · have nc1 : j < 4 := by
        have z : ¬ nI 4 ≤ nI j := by simpa only [nI_add, pk_mul, nI_s1, n0_lit] using c1
        rw [nI_leI (by omega) (by omega)] at z
        omega
      refine blk 2 [(.iload_n 2, 0, 0, 0), (.aload_n 0, 0, 0, 0), (.iload_n 3, 0, 0, 0), (.iload 4, 0, 0, 0)] [] (by decide +kernel) rfl (pc' := 23) (ls' := [some (.ref t), some (.ref u), some (.int (A + psum (minF M t u w v i) j)), some (.int (nI i)), some (.int (nI j))]) (st' := [.int (nI j), .int (nI i), .ref t, .int (A + psum (minF M t u w v i) j)]) (M' := M) rfl ⟨trivial, trivial, trivial, trivial, trivial⟩ ?_
      refine g_callV (s_times M (nI i) (nI j) hk hw hl) ok_X2_tuplesSharedWith_X2_timesOfTuple (by decide +kernel) rfl (c := 2) (by assumption) (by decide) rfl (Nat.le_of_ble_eq_true rfl) (fun r M' h => ?_) rfl
      obtain ⟨hr, hM⟩ := h
      rw [hr, hM]
      show G _ 26 [some (.ref t), some (.ref u), some (.int (A + psum (minF M t u w v i) j)), some (.int (nI i)), some (.int (nI j))] [.int (psum (tupF M t (nI i) (nI j)) (w - 1)), .int (A + psum (minF M t u w v i) j)] M _
      refine blk 2 [(.aload_n 1, 0, 0, 0), (.iload_n 3, 0, 0, 0), (.iload 4, 0, 0, 0)] [] (by decide +kernel) rfl (pc' := 30) (ls' := [some (.ref t), some (.ref u), some (.int (A + psum (minF M t u w v i) j)), some (.int (nI i)), some (.int (nI j))]) (st' := [.int (nI j), .int (nI i), .ref u, .int (psum (tupF M t (nI i) (nI j)) (w - 1)), .int (A + psum (minF M t u w v i) j)]) (M' := M) rfl ⟨trivial, trivial, trivial, trivial⟩ ?_
      refine g_callV (s_times M (nI i) (nI j) hk2 hv hl2) ok_X2_tuplesSharedWith_X2_timesOfTuple (by decide +kernel) rfl (c := 2) (by assumption) (by decide) rfl (Nat.le_of_ble_eq_true rfl) (fun r M' h => ?_) rfl
      obtain ⟨hr, hM⟩ := h
      rw [hr, hM]
      show G _ 33 [some (.ref t), some (.ref u), some (.int (A + psum (minF M t u w v i) j)), some (.int (nI i)), some (.int (nI j))] [.int (psum (tupF M u (nI i) (nI j)) (v - 1)), .int (psum (tupF M t (nI i) (nI j)) (w - 1)), .int (A + psum (minF M t u w v i) j)] M _
      refine g_mmin (index := 29) (TB_in (by decide +kernel) (by decide +kernel)) (TB_in (by decide +kernel) (by decide +kernel)) (TB_in (by decide +kernel) (by decide +kernel)) (TB_in (by decide +kernel) (by decide +kernel)) (by decide) (Nat.le_of_ble_eq_true rfl) (by decide +kernel) ?_
      refine blk 2 [(.iadd, 0, 0, 0), (.istore_n 2, 0, 0, 0), (.iinc 4 1, 0, 0, (nI 1)), (.goto (-29), 12, 0, 0)] [] (by decide +kernel) rfl (pc' := 12) (ls' := [some (.ref t), some (.ref u), some (.int ((A + psum (minF M t u w v i) j) + (if (psum (tupF M u (nI i) (nI j)) (v - 1)) < (psum (tupF M t (nI i) (nI j)) (w - 1)) then psum (tupF M u (nI i) (nI j)) (v - 1) else psum (tupF M t (nI i) (nI j)) (w - 1)))), some (.int (nI i)), some (.int (nI j + nI 1))]) (st' := []) (M' := M) rfl ⟨trivial, trivial, trivial, trivial, trivial⟩ ?_
      refine G.sub (ls' := [some (.ref t), some (.ref u), some (.int (A + psum (minF M t u w v i) (j + 1))), some (.int (nI i)), some (.int (nI (j + 1)))]) ?_ ⟨rfl, rfl, congrArg (fun z => some (Value.int z)) (by rw [psum, ← Int32.add_assoc]; rfl), rfl, congrArg (fun z => some (Value.int z)) (by simp only [nI_add, nI_s1]), trivial⟩
      exact ih (d - 1) (by omega) (j + 1) (by omega) (by omega)
theorem l_tuples {M : Mem} {t u w v : Nat} {Post : Option Value → Mem → Prop} (hk : kd t = 2) (hk2 : kd u = 2) (hw : M t 1 = nI w) (hv : M u 1 = nI v) (hl : w ≤ al (t + 5)) (hl2 : v ≤ al (u + 5)) (hp : Post (some (.int (psum (fun i => psum (minF M t u w v i) 4) 4))) M) : ∀ d i, d = 4 - i → i ≤ 4 → G mX2_tuplesSharedWith 4 [some (.ref t), some (.ref u), some (.int (psum (fun i => psum (minF M t u w v i) 4) i)), some (.int (nI i)), none] [] M Post := by
  intro d
  induction d using Nat.strongRecOn with
  | ind d ih =>
    intro i hd hj
    refine blk 2 [(.iload_n 3, 0, 0, 0), (.iconst 4, 0, 0, (nI 4))] [] (by decide +kernel) rfl (pc' := 6) (ls' := [some (.ref t), some (.ref u), some (.int (psum (fun i => psum (minF M t u w v i) 4) i)), some (.int (nI i)), none]) (st' := [.int (nI 4), .int (nI i)]) (M' := M) rfl ⟨trivial, trivial, trivial⟩ ?_
    refine g_icmp_ge (off := 44) (tgt := 50) (by decide +kernel) (by decide) (fun c1 => ?_) (fun c1 => ?_)
    · have nc1 : 4 ≤ i := (nI_leI (by omega) (by omega)).mp (by simpa only [nI_add, pk_mul, nI_s1, n0_lit] using c1)
      refine blk 2 [(.iload_n 2, 0, 0, 0)] [] (by decide +kernel) rfl (pc' := 51) (ls' := [some (.ref t), some (.ref u), some (.int (psum (fun i => psum (minF M t u w v i) 4) i)), some (.int (nI i)), none]) (st' := [.int (psum (fun i => psum (minF M t u w v i) 4) i)]) (M' := M) rfl ⟨trivial, trivial⟩ ?_
      have e : i = 4 := by omega
      subst e
      exact g_ireturn (by decide +kernel) rfl rfl hp
    · have nc1 : i < 4 := by
        have z : ¬ nI 4 ≤ nI i := by simpa only [nI_add, pk_mul, nI_s1, n0_lit] using c1
        rw [nI_leI (by omega) (by omega)] at z
        omega
      refine blk 2 [(.iconst 0, 0, 0, (nI 0)), (.istore 4, 0, 0, 0)] [] (by decide +kernel) rfl (pc' := 12) (ls' := [some (.ref t), some (.ref u), some (.int (psum (fun i => psum (minF M t u w v i) 4) i)), some (.int (nI i)), some (.int (nI 0))]) (st' := []) (M' := M) rfl ⟨trivial, trivial, trivial⟩ ?_
      refine G.sub (ls' := [some (.ref t), some (.ref u), some (.int (psum (fun i => psum (minF M t u w v i) 4) i + psum (minF M t u w v i) 0)), some (.int (nI i)), some (.int (nI 0))]) ?_ ⟨rfl, rfl, congrArg (fun z => some (Value.int z)) (Int32.add_zero _).symm, rfl, rfl, trivial⟩
      exact l_tuples2 hk hk2 hw hv hl hl2 (ih (d - 1) (by omega) (i + 1) (by omega) (by omega)) _ 0 rfl (by omega)
theorem s_tuples (M : Mem) {t u w v : Nat} (hk : kd t = 2) (hk2 : kd u = 2) (hw : M t 1 = nI w) (hv : M u 1 = nI v) (hl : w ≤ al (t + 5)) (hl2 : v ≤ al (u + 5)) : Spec mX2_tuplesSharedWith [.ref t, .ref u] M (Ret (psum (fun i => psum (minF M t u w v i) 4) 4) M) := by
  refine Spec.of (by decide) (by simp [Value.category]) (Nat.le_of_ble_eq_true rfl) ?_
  refine blk 2 [(.iconst 0, 0, 0, (nI 0)), (.istore_n 2, 0, 0, 0), (.iconst 0, 0, 0, (nI 0)), (.istore_n 3, 0, 0, 0)] [] (by decide +kernel) rfl (pc' := 4) (ls' := [some (.ref t), some (.ref u), some (.int (nI 0)), some (.int (nI 0)), none]) (st' := []) (M' := M) rfl ⟨trivial, trivial, trivial, trivial, trivial⟩ ?_
  exact l_tuples hk hk2 hw hv hl hl2 ⟨rfl, rfl⟩ _ 0 rfl (by omega)
end
section
/-! Row.spread -/
/-- how many of the first k are not g -/
def ncnt (f : Nat → Int32) (g : Int32) : Nat → Nat
  | 0 => 0
  | k + 1 => ncnt f g k + if f k = g then 0 else 1
theorem ncnt_le (f : Nat → Int32) (g : Int32) (k : Nat) : ncnt f g k ≤ k := by
  induction k with
  | zero => exact Nat.le_refl 0
  | succ k ih => rw [ncnt]; split <;> omega
theorem ncnt_mono (f : Nat → Int32) (g : Int32) {j k : Nat} (h : j ≤ k) : ncnt f g j ≤ ncnt f g k := by
  induction k with
  | zero => rw [Nat.le_zero.mp h]; exact Nat.le_refl _
  | succ k ih =>
    rcases Nat.lt_or_ge k j with h1 | h1
    · rw [show j = k + 1 by omega]; exact Nat.le_refl _
    · rw [ncnt]; have := ih h1; omega
theorem nI_m1 (n : Nat) : nI (n + 1) + (-1) = nI n := pk_m1 n
theorem dec1 (x : Int32) : x + (-1) = x - nI 1 := by rw [n1_lit, Int32.sub_eq_add_neg]
def sprP (M : Mem) (t n : Nat) (g : Int32) : Option Value → Mem → Prop := fun r N => r = none ∧ N t 1 = nI n ∧ (∀ j, j < n → N (t + 5) j = if M 15 j = g then -1 else M (t + 5) (ncnt (M 15) g j)) ∧ ∀ z, z ≠ t → z ≠ t + 5 → N z = M z
theorem l_spread {M0 : Mem} {t n : Nat} {g : Int32} (hk : kd t = 2) (hn : n ≤ 60) (hl : n ≤ al (t + 5)) (ht : t + 5 < 96) (h15 : t + 5 ≠ 15) : ∀ k M, k ≤ n → (∀ z, z ≠ t + 5 → M z = M0 z) → (∀ j, j < k → M (t + 5) j = M0 (t + 5) j) → (∀ j, k ≤ j → j < n → M (t + 5) j = if M0 15 j = g then -1 else M0 (t + 5) (ncnt (M0 15) g j)) → G mX2_spread 13 [some (.ref t), some (.ref 15), some (.int (nI n)), some (.int g), some (.int (nI (ncnt (M0 15) g k) - nI 1)), some (.int (nI k - nI 1))] [] M (sprP M0 t n g) := by
  intro k
  induction k with
  | zero =>
    intro M hkn i1 i2 i3
    refine blk 2 [(.iload 5, 0, 0, 0)] [] (by decide +kernel) rfl (pc' := 15) (ls' := [some (.ref t), some (.ref 15), some (.int (nI n)), some (.int g), some (.int (nI (ncnt (M0 15) g 0) - nI 1)), some (.int (nI 0 - nI 1))]) (st' := [.int (nI 0 - nI 1)]) (M' := M) rfl ⟨trivial, trivial⟩ ?_
    refine g_if_lt (off := 45) (tgt := 60) (by decide +kernel) (by decide) (fun c1 => ?_) (fun c1 => ?_)
    · refine blk 2 [(.aload_n 0, 0, 0, 0), (.iload_n 2, 0, 0, 0), (.putfield 15, 2, 1, 0)] [] (by decide +kernel) rfl (pc' := 65) (ls' := [some (.ref t), some (.ref 15), some (.int (nI n)), some (.int g), some (.int (nI (ncnt (M0 15) g 0) - nI 1)), some (.int (nI 0 - nI 1))]) (st' := []) (M' := stm M t 1 (nI n)) rfl ⟨trivial, trivial, (by assumption), trivial⟩ ?_
      refine g_return (by decide +kernel) rfl ⟨rfl, ?_, fun j hj => ?_, fun z h1 h2 => ?_⟩
      · rw [stm_self]
      · rw [stm_ne (by omega)]; exact i3 j (Nat.zero_le j) hj
      · rw [stm_ne h1]; exact i1 z h2
    · exact absurd (by decide) c1
  | succ k ih =>
    intro M hkn i1 i2 i3
    refine blk 2 [(.iload 5, 0, 0, 0)] [] (by decide +kernel) rfl (pc' := 15) (ls' := [some (.ref t), some (.ref 15), some (.int (nI n)), some (.int g), some (.int (nI (ncnt (M0 15) g (k + 1)) - nI 1)), some (.int (nI (k + 1) - nI 1))]) (st' := [.int (nI (k + 1) - nI 1)]) (M' := M) rfl ⟨trivial, trivial⟩ ?_
    refine g_if_lt (off := 45) (tgt := 60) (by decide +kernel) (by decide) (fun c1 => ?_) (fun c1 => ?_)
    · have nc1 : k < 0 := (nI_ltI (by omega) (by omega)).mp (by simpa only [nI_add, pk_mul, nI_s1, n0_lit] using c1)
      exact absurd (nI_s1 k ▸ c1) (nI_pos (by omega))
    · have nc1 : 0 ≤ k := by
        have z : ¬ nI k < nI 0 := by simpa only [nI_add, pk_mul, nI_s1, n0_lit] using c1
        rw [nI_ltI (by omega) (by omega)] at z
        omega
      refine blk 2 [(.aload_n 1, 0, 0, 0), (.iload 5, 0, 0, 0), (.iaload, 0, 0, 0), (.iload_n 3, 0, 0, 0)] [k] (by decide +kernel) rfl (pc' := 23) (ls' := [some (.ref t), some (.ref 15), some (.int (nI n)), some (.int g), some (.int (nI (ncnt (M0 15) g (k + 1)) - nI 1)), some (.int (nI (k + 1) - nI 1))]) (st' := [.int g, .int (M 15 k)]) (M' := M) rfl ⟨trivial, trivial, ⟨(by simp only [nI_add, pk_mul, nI_s1]), (by show _ < 60; omega)⟩, trivial, trivial⟩ ?_
      refine g_icmp_ne (off := 14) (tgt := 37) (by decide +kernel) (by decide) (fun c2 => ?_) (fun c2 => ?_)
      · have e5 : ncnt (M0 15) g (k + 1) = ncnt (M0 15) g k + 1 := by rw [ncnt, if_neg (by rw [← i1 15 (by omega)]; exact c2)]
        refine blk 2 [(.aload_n 0, 0, 0, 0), (.getfield 9, 2, 0, 0), (.iload 5, 0, 0, 0), (.aload_n 0, 0, 0, 0), (.getfield 9, 2, 0, 0), (.iload 4, 0, 0, 0), (.iaload, 0, 0, 0), (.iastore, 0, 0, 0), (.iinc 4 (-1), 0, 0, (-1)), (.iinc 5 (-1), 0, 0, (-1)), (.goto (-44), 13, 0, 0)] [ncnt (M0 15) g k, k] (by decide +kernel) rfl (pc' := 13) (ls' := [some (.ref t), some (.ref 15), some (.int (nI n)), some (.int g), some (.int (nI (ncnt (M0 15) g (k + 1)) - nI 1 + (-1))), some (.int (nI (k + 1) - nI 1 + (-1)))]) (st' := []) (M' := stm M (t + 5) k (M (t + 5) (ncnt (M0 15) g k))) rfl ⟨trivial, (by assumption), trivial, trivial, (by assumption), trivial, ⟨(by rw [e5, nI_s1]), (by have := ncnt_le (M0 15) g k; omega)⟩, ⟨(by simp only [nI_add, pk_mul, nI_s1]), (by omega), by omega⟩, trivial, trivial, trivial, trivial⟩ ?_
        refine G.sub (ls' := [some (.ref t), some (.ref 15), some (.int (nI n)), some (.int g), some (.int (nI (ncnt (M0 15) g k) - nI 1)), some (.int (nI k - nI 1))]) ?_ ⟨rfl, rfl, rfl, rfl, congrArg (fun z => some (Value.int z)) (by rw [dec1, e5, nI_s1]), congrArg (fun z => some (Value.int z)) (by rw [nI_s1, dec1]), trivial⟩
        refine ih _ (by omega) (fun z hz => ?_) (fun j hj => ?_) (fun j h1 h2 => ?_)
        · rw [stm_ne hz]; exact i1 z hz
        · rw [stm_off (by omega)]; exact i2 j (by omega)
        · by_cases e : j = k
          · subst e
            rw [stm_self]
            rw [if_neg (by rw [← i1 15 (by omega)]; exact c2)]; exact i2 _ (by have := ncnt_le (M0 15) g j; omega)
          · rw [stm_off e]; exact i3 j (by omega) h2
      · refine blk 2 [(.aload_n 0, 0, 0, 0), (.getfield 9, 2, 0, 0), (.iload 5, 0, 0, 0), (.iconst (-1), 0, 0, (-1)), (.iastore, 0, 0, 0), (.goto (20), 54, 0, 0), (.iinc 5 (-1), 0, 0, (-1)), (.goto (-44), 13, 0, 0)] [k] (by decide +kernel) rfl (pc' := 13) (ls' := [some (.ref t), some (.ref 15), some (.int (nI n)), some (.int g), some (.int (nI (ncnt (M0 15) g (k + 1)) - nI 1)), some (.int (nI (k + 1) - nI 1 + (-1)))]) (st' := []) (M' := stm M (t + 5) k (-1)) rfl ⟨trivial, (by assumption), trivial, trivial, ⟨(by simp only [nI_add, pk_mul, nI_s1]), (by omega), by omega⟩, trivial, trivial, trivial, trivial⟩ ?_
        have e5 : ncnt (M0 15) g (k + 1) = ncnt (M0 15) g k := by rw [ncnt, if_pos (by rw [← i1 15 (by omega)]; exact c2)]; omega
        refine G.sub (ls' := [some (.ref t), some (.ref 15), some (.int (nI n)), some (.int g), some (.int (nI (ncnt (M0 15) g k) - nI 1)), some (.int (nI k - nI 1))]) ?_ ⟨rfl, rfl, rfl, rfl, congrArg (fun z => some (Value.int z)) (by rw [e5]), congrArg (fun z => some (Value.int z)) (by rw [nI_s1, dec1]), trivial⟩
        refine ih _ (by omega) (fun z hz => ?_) (fun j hj => ?_) (fun j h1 h2 => ?_)
        · rw [stm_ne hz]; exact i1 z hz
        · rw [stm_off (by omega)]; exact i2 j (by omega)
        · by_cases e : j = k
          · subst e
            rw [stm_self]
            rw [if_pos (by rw [← i1 15 (by omega)]; exact c2)]
          · rw [stm_off e]; exact i3 j (by omega) h2
theorem s_rspread (M : Mem) {t n w : Nat} {g : Int32} (hk : kd t = 2) (hw : M t 1 = nI w) (hc : ncnt (M 15) g n = w) (hn : n ≤ 60) (hl : n ≤ al (t + 5)) (ht : t + 5 < 96) (h15 : t + 5 ≠ 15) : Spec mX2_spread [.ref t, .ref 15, .int (nI n), .int g] M (sprP M t n g) := by
  refine Spec.of (by decide) (by simp [Value.category]) (Nat.le_of_ble_eq_true rfl) ?_
  refine blk 2 [(.aload_n 0, 0, 0, 0), (.getfield 15, 2, 1, 0), (.iconst 1, 0, 0, (nI 1)), (.isub, 0, 0, 0), (.istore 4, 0, 0, 0), (.iload_n 2, 0, 0, 0), (.iconst 1, 0, 0, (nI 1)), (.isub, 0, 0, 0), (.istore 5, 0, 0, 0)] [] (by decide +kernel) rfl (pc' := 13) (ls' := [some (.ref t), some (.ref 15), some (.int (nI n)), some (.int g), some (.int ((M t 1) - (nI 1))), some (.int ((nI n) - (nI 1)))]) (st' := []) (M' := M) rfl ⟨trivial, (by assumption), trivial, trivial, trivial, trivial, trivial, trivial, trivial, trivial⟩ ?_
  rw [hw, ← hc]
  exact l_spread hk hn hl ht h15 n M (Nat.le_refl n) (fun _ _ => rfl) (fun _ _ => rfl) (fun j h1 h2 => absurd h1 (by omega))
end
section
/-! Row.scoreBeside -/
/-- a cell: a gap or a letter -/
def okc (x : Int32) : Prop := x = -1 ∨ ∃ a, a < 4 ∧ x = nI a
def cd (x : Int32) : Nat := x.toNatClampNeg
theorem okc_cd {x : Int32} (h : okc x) (hn : ¬ x = -1) : x = nI (cd x) ∧ cd x < 4 := by
  rcases h with h | ⟨a, ha, rfl⟩
  · exact absurd h hn
  · unfold cd; rw [nI_clamp (by omega)]; exact ⟨rfl, ha⟩
/-- what a pair of rows is worth column by column: the sum, and the last kind of column -/
def sbS (sc : Nat → Int32) (op ex : Int32) (x y : Int32) (q : Int32 × Int32) : Int32 × Int32 :=
  if x = -1 ∧ y = -1 then q
  else if x = -1 then (q.1 - (ex + if nI 2 = q.2 then nI 0 else op), nI 2)
  else if y = -1 then (q.1 - (ex + if nI 1 = q.2 then nI 0 else op), nI 1)
  else (q.1 + sc (cd x * 4 + cd y), nI 0)
def sbF (sc : Nat → Int32) (op ex : Int32) (x y : Nat → Int32) : Nat → Int32 × Int32
  | 0 => (nI 0, nI 0)
  | k + 1 => sbS sc op ex (x k) (y k) (sbF sc op ex x y k)
theorem ixx {x y : Int32} {a b : Nat} (h1 : x = nI a) (h2 : y = nI b) : x * nI 4 + y = nI (a * 4 + b) := by rw [h1, h2, pk_mul, nI_add]
theorem l_beside {M : Mem} {t u w : Nat} {Post : Option Value → Mem → Prop} (hk : kd t = 2) (hk2 : kd u = 2) (hw : M t 1 = nI w) (hl : w ≤ al (t + 5)) (hl2 : w ≤ al (u + 5)) (hx : ∀ k, k < w → okc (M (t + 5) k)) (hy : ∀ k, k < w → okc (M (u + 5) k)) (hp : Post (some (.int (sbF (M 3) (M 2 1) (M 2 2) (M (t + 5)) (M (u + 5)) w).1)) M) : ∀ d j, d = w - j → j ≤ w → G mX2_scoreBeside 8 [some (.ref t), some (.ref u), some (.ref 2), some (.int (sbF (M 3) (M 2 1) (M 2 2) (M (t + 5)) (M (u + 5)) j).1), some (.int (sbF (M 3) (M 2 1) (M 2 2) (M (t + 5)) (M (u + 5)) j).2), some (.int (nI j)), none, none, none] [] M Post := by
  have hb := @al_big (t + 5)
  intro d
  induction d using Nat.strongRecOn with
  | ind d ih =>
    intro j hd hj
    refine blk 2 [(.iload 5, 0, 0, 0), (.aload_n 0, 0, 0, 0), (.getfield 15, 2, 1, 0)] [] (by decide +kernel) rfl (pc' := 14) (ls' := [some (.ref t), some (.ref u), some (.ref 2), some (.int ((sbF (M 3) (M 2 1) (M 2 2) (M (t + 5)) (M (u + 5)) j).1)), some (.int ((sbF (M 3) (M 2 1) (M 2 2) (M (t + 5)) (M (u + 5)) j).2)), some (.int (nI j)), none, none, none]) (st' := [.int (M t 1), .int (nI j)]) (M' := M) rfl ⟨trivial, trivial, (by assumption), trivial⟩ ?_
    refine g_icmp_ge (off := 115) (tgt := 129) (by decide +kernel) (by decide) (fun c1 => ?_) (fun c1 => ?_)
    · have nc1 : w ≤ j := (nI_leI (by omega) (by omega)).mp (by simpa only [hw, nI_add, pk_mul, nI_s1, n0_lit] using c1)
      refine blk 2 [(.iload_n 3, 0, 0, 0)] [] (by decide +kernel) rfl (pc' := 130) (ls' := [some (.ref t), some (.ref u), some (.ref 2), some (.int ((sbF (M 3) (M 2 1) (M 2 2) (M (t + 5)) (M (u + 5)) j).1)), some (.int ((sbF (M 3) (M 2 1) (M 2 2) (M (t + 5)) (M (u + 5)) j).2)), some (.int (nI j)), none, none, none]) (st' := [.int ((sbF (M 3) (M 2 1) (M 2 2) (M (t + 5)) (M (u + 5)) j).1)]) (M' := M) rfl ⟨trivial, trivial⟩ ?_
      have e : j = w := by omega
      subst e
      exact g_ireturn (by decide +kernel) rfl rfl hp
    · have nc1 : j < w := by
        have z : ¬ nI w ≤ nI j := by simpa only [hw, nI_add, pk_mul, nI_s1, n0_lit] using c1
        rw [nI_leI (by omega) (by omega)] at z
        omega
      refine blk 2 [(.aload_n 0, 0, 0, 0), (.getfield 9, 2, 0, 0), (.iload 5, 0, 0, 0), (.iaload, 0, 0, 0), (.istore 6, 0, 0, 0), (.aload_n 1, 0, 0, 0), (.getfield 9, 2, 0, 0), (.iload 5, 0, 0, 0), (.iaload, 0, 0, 0), (.istore 7, 0, 0, 0), (.iload 6, 0, 0, 0), (.iconst (-1), 0, 0, (-1))] [j, j] (by decide +kernel) rfl (pc' := 38) (ls' := [some (.ref t), some (.ref u), some (.ref 2), some (.int ((sbF (M 3) (M 2 1) (M 2 2) (M (t + 5)) (M (u + 5)) j).1)), some (.int ((sbF (M 3) (M 2 1) (M 2 2) (M (t + 5)) (M (u + 5)) j).2)), some (.int (nI j)), some (.int (M (t + 5) j)), some (.int (M (u + 5) j)), none]) (st' := [.int (-1), .int (M (t + 5) j)]) (M' := M) rfl ⟨trivial, (by assumption), trivial, ⟨rfl, (by omega)⟩, trivial, trivial, (by assumption), trivial, ⟨rfl, (by omega)⟩, trivial, trivial, trivial, trivial⟩ ?_
      refine g_icmp_ne (off := 12) (tgt := 50) (by decide +kernel) (by decide) (fun c2 => ?_) (fun c2 => ?_)
      · refine blk 2 [(.iload 6, 0, 0, 0), (.iconst (-1), 0, 0, (-1))] [] (by decide +kernel) rfl (pc' := 53) (ls' := [some (.ref t), some (.ref u), some (.ref 2), some (.int ((sbF (M 3) (M 2 1) (M 2 2) (M (t + 5)) (M (u + 5)) j).1)), some (.int ((sbF (M 3) (M 2 1) (M 2 2) (M (t + 5)) (M (u + 5)) j).2)), some (.int (nI j)), some (.int (M (t + 5) j)), some (.int (M (u + 5) j)), none]) (st' := [.int (-1), .int (M (t + 5) j)]) (M' := M) rfl ⟨trivial, trivial, trivial⟩ ?_
        refine g_icmp_ne (off := 7) (tgt := 60) (by decide +kernel) (by decide) (fun c3 => ?_) (fun c3 => ?_)
        · refine blk 2 [(.iload 7, 0, 0, 0), (.iconst (-1), 0, 0, (-1))] [] (by decide +kernel) rfl (pc' := 63) (ls' := [some (.ref t), some (.ref u), some (.ref 2), some (.int ((sbF (M 3) (M 2 1) (M 2 2) (M (t + 5)) (M (u + 5)) j).1)), some (.int ((sbF (M 3) (M 2 1) (M 2 2) (M (t + 5)) (M (u + 5)) j).2)), some (.int (nI j)), some (.int (M (t + 5) j)), some (.int (M (u + 5) j)), none]) (st' := [.int (-1), .int (M (u + 5) j)]) (M' := M) rfl ⟨trivial, trivial, trivial⟩ ?_
          refine g_icmp_ne (off := 7) (tgt := 70) (by decide +kernel) (by decide) (fun c4 => ?_) (fun c4 => ?_)
          · refine blk 2 [(.iconst 0, 0, 0, (nI 0)), (.istore 8, 0, 0, 0), (.iload 8, 0, 0, 0)] [] (by decide +kernel) rfl (pc' := 75) (ls' := [some (.ref t), some (.ref u), some (.ref 2), some (.int ((sbF (M 3) (M 2 1) (M 2 2) (M (t + 5)) (M (u + 5)) j).1)), some (.int ((sbF (M 3) (M 2 1) (M 2 2) (M (t + 5)) (M (u + 5)) j).2)), some (.int (nI j)), some (.int (M (t + 5) j)), some (.int (M (u + 5) j)), some (.int (nI 0))]) (st' := [.int (nI 0)]) (M' := M) rfl ⟨trivial, trivial, trivial, trivial⟩ ?_
            refine g_if_ne (off := 21) (tgt := 96) (by decide +kernel) (by decide) (fun c5 => ?_) (fun c5 => ?_)
            · exact absurd (by decide +kernel) c5
            · have ex := okc_cd (hx j (by omega)) c2
              have ey := okc_cd (hy j (by omega)) c4
              refine blk 2 [(.iload_n 3, 0, 0, 0), (.aload_n 2, 0, 0, 0), (.getfield 34, 0, 0, 0), (.iload 6, 0, 0, 0), (.iconst 4, 0, 0, (nI 4)), (.imul, 0, 0, 0), (.iload 7, 0, 0, 0), (.iadd, 0, 0, 0), (.iaload, 0, 0, 0), (.iadd, 0, 0, 0), (.istore_n 3, 0, 0, 0), (.goto (26), 119, 0, 0), (.iload 8, 0, 0, 0), (.istore 4, 0, 0, 0), (.iinc 5 1, 0, 0, (nI 1)), (.goto (-118), 8, 0, 0)] [cd (M (t + 5) j) * 4 + cd (M (u + 5) j)] (by decide +kernel) rfl (pc' := 8) (ls' := [some (.ref t), some (.ref u), some (.ref 2), some (.int (((sbF (M 3) (M 2 1) (M 2 2) (M (t + 5)) (M (u + 5)) j).1) + (M 3 (cd (M (t + 5) j) * 4 + cd (M (u + 5) j))))), some (.int (nI 0)), some (.int (nI j + nI 1)), some (.int (M (t + 5) j)), some (.int (M (u + 5) j)), some (.int (nI 0))]) (st' := []) (M' := M) rfl ⟨trivial, trivial, rfl, trivial, trivial, trivial, trivial, trivial, ⟨(ixx ex.1 ey.1), (by show _ < 16; omega)⟩, trivial, trivial, trivial, trivial, trivial, trivial, trivial, trivial⟩ ?_
              have e : sbF (M 3) (M 2 1) (M 2 2) (M (t + 5)) (M (u + 5)) (j + 1) = (((sbF (M 3) (M 2 1) (M 2 2) (M (t + 5)) (M (u + 5)) j).1) + (M 3 (cd (M (t + 5) j) * 4 + cd (M (u + 5) j))), nI 0) := by
                try clear ex ey
                rw [sbF, sbS]; simp_all
              refine G.sub (ls' := [some (.ref t), some (.ref u), some (.ref 2), some (.int ((sbF (M 3) (M 2 1) (M 2 2) (M (t + 5)) (M (u + 5)) (j + 1)).1)), some (.int ((sbF (M 3) (M 2 1) (M 2 2) (M (t + 5)) (M (u + 5)) (j + 1)).2)), some (.int (nI (j + 1))), none, none, none]) ?_ ⟨rfl, rfl, rfl, congrArg (fun z => some (Value.int z)) (by rw [e]), congrArg (fun z => some (Value.int z)) (by rw [e]), congrArg (fun z => some (Value.int z)) (by simp only [nI_add, nI_s1]), trivial⟩
              exact ih (d - 1) (by omega) (j + 1) (by omega) (by omega)
          · refine blk 2 [(.iconst 1, 0, 0, (nI 1)), (.goto (4), 71, 0, 0), (.istore 8, 0, 0, 0), (.iload 8, 0, 0, 0)] [] (by decide +kernel) rfl (pc' := 75) (ls' := [some (.ref t), some (.ref u), some (.ref 2), some (.int ((sbF (M 3) (M 2 1) (M 2 2) (M (t + 5)) (M (u + 5)) j).1)), some (.int ((sbF (M 3) (M 2 1) (M 2 2) (M (t + 5)) (M (u + 5)) j).2)), some (.int (nI j)), some (.int (M (t + 5) j)), some (.int (M (u + 5) j)), some (.int (nI 1))]) (st' := [.int (nI 1)]) (M' := M) rfl ⟨trivial, trivial, trivial, trivial, trivial⟩ ?_
            refine g_if_ne (off := 21) (tgt := 96) (by decide +kernel) (by decide) (fun c6 => ?_) (fun c6 => ?_)
            · refine blk 2 [(.iload_n 3, 0, 0, 0), (.aload_n 2, 0, 0, 0), (.getfield 39, 0, 2, 0), (.iload 8, 0, 0, 0), (.iload 4, 0, 0, 0)] [] (by decide +kernel) rfl (pc' := 105) (ls' := [some (.ref t), some (.ref u), some (.ref 2), some (.int ((sbF (M 3) (M 2 1) (M 2 2) (M (t + 5)) (M (u + 5)) j).1)), some (.int ((sbF (M 3) (M 2 1) (M 2 2) (M (t + 5)) (M (u + 5)) j).2)), some (.int (nI j)), some (.int (M (t + 5) j)), some (.int (M (u + 5) j)), some (.int (nI 1))]) (st' := [.int ((sbF (M 3) (M 2 1) (M 2 2) (M (t + 5)) (M (u + 5)) j).2), .int (nI 1), .int (M 2 2), .int ((sbF (M 3) (M 2 1) (M 2 2) (M (t + 5)) (M (u + 5)) j).1)]) (M' := M) rfl ⟨trivial, trivial, rfl, trivial, trivial, trivial⟩ ?_
              refine g_icmp_ne (off := 7) (tgt := 112) (by decide +kernel) (by decide) (fun c7 => ?_) (fun c7 => ?_)
              · refine blk 2 [(.aload_n 2, 0, 0, 0), (.getfield 42, 0, 1, 0), (.iadd, 0, 0, 0), (.isub, 0, 0, 0), (.istore_n 3, 0, 0, 0), (.iload 8, 0, 0, 0), (.istore 4, 0, 0, 0), (.iinc 5 1, 0, 0, (nI 1)), (.goto (-118), 8, 0, 0)] [] (by decide +kernel) rfl (pc' := 8) (ls' := [some (.ref t), some (.ref u), some (.ref 2), some (.int (((sbF (M 3) (M 2 1) (M 2 2) (M (t + 5)) (M (u + 5)) j).1) - ((M 2 2) + (M 2 1)))), some (.int (nI 1)), some (.int (nI j + nI 1)), some (.int (M (t + 5) j)), some (.int (M (u + 5) j)), some (.int (nI 1))]) (st' := []) (M' := M) rfl ⟨trivial, rfl, trivial, trivial, trivial, trivial, trivial, trivial, trivial, trivial⟩ ?_
                have e : sbF (M 3) (M 2 1) (M 2 2) (M (t + 5)) (M (u + 5)) (j + 1) = (((sbF (M 3) (M 2 1) (M 2 2) (M (t + 5)) (M (u + 5)) j).1) - ((M 2 2) + (M 2 1)), nI 1) := by
                  try clear ex ey
                  rw [sbF, sbS]; simp_all
                refine G.sub (ls' := [some (.ref t), some (.ref u), some (.ref 2), some (.int ((sbF (M 3) (M 2 1) (M 2 2) (M (t + 5)) (M (u + 5)) (j + 1)).1)), some (.int ((sbF (M 3) (M 2 1) (M 2 2) (M (t + 5)) (M (u + 5)) (j + 1)).2)), some (.int (nI (j + 1))), none, none, none]) ?_ ⟨rfl, rfl, rfl, congrArg (fun z => some (Value.int z)) (by rw [e]), congrArg (fun z => some (Value.int z)) (by rw [e]), congrArg (fun z => some (Value.int z)) (by simp only [nI_add, nI_s1]), trivial⟩
                exact ih (d - 1) (by omega) (j + 1) (by omega) (by omega)
              · refine blk 2 [(.iconst 0, 0, 0, (nI 0)), (.goto (7), 116, 0, 0), (.iadd, 0, 0, 0), (.isub, 0, 0, 0), (.istore_n 3, 0, 0, 0), (.iload 8, 0, 0, 0), (.istore 4, 0, 0, 0), (.iinc 5 1, 0, 0, (nI 1)), (.goto (-118), 8, 0, 0)] [] (by decide +kernel) rfl (pc' := 8) (ls' := [some (.ref t), some (.ref u), some (.ref 2), some (.int (((sbF (M 3) (M 2 1) (M 2 2) (M (t + 5)) (M (u + 5)) j).1) - ((M 2 2) + (nI 0)))), some (.int (nI 1)), some (.int (nI j + nI 1)), some (.int (M (t + 5) j)), some (.int (M (u + 5) j)), some (.int (nI 1))]) (st' := []) (M' := M) rfl ⟨trivial, trivial, trivial, trivial, trivial, trivial, trivial, trivial, trivial, trivial⟩ ?_
                have e : sbF (M 3) (M 2 1) (M 2 2) (M (t + 5)) (M (u + 5)) (j + 1) = (((sbF (M 3) (M 2 1) (M 2 2) (M (t + 5)) (M (u + 5)) j).1) - ((M 2 2) + (nI 0)), nI 1) := by
                  try clear ex ey
                  rw [sbF, sbS]; simp_all
                refine G.sub (ls' := [some (.ref t), some (.ref u), some (.ref 2), some (.int ((sbF (M 3) (M 2 1) (M 2 2) (M (t + 5)) (M (u + 5)) (j + 1)).1)), some (.int ((sbF (M 3) (M 2 1) (M 2 2) (M (t + 5)) (M (u + 5)) (j + 1)).2)), some (.int (nI (j + 1))), none, none, none]) ?_ ⟨rfl, rfl, rfl, congrArg (fun z => some (Value.int z)) (by rw [e]), congrArg (fun z => some (Value.int z)) (by rw [e]), congrArg (fun z => some (Value.int z)) (by simp only [nI_add, nI_s1]), trivial⟩
                exact ih (d - 1) (by omega) (j + 1) (by omega) (by omega)
            · exact absurd c6 (by decide +kernel)
        · exact absurd c3 c2
      · refine blk 2 [(.iload 7, 0, 0, 0), (.iconst (-1), 0, 0, (-1))] [] (by decide +kernel) rfl (pc' := 44) (ls' := [some (.ref t), some (.ref u), some (.ref 2), some (.int ((sbF (M 3) (M 2 1) (M 2 2) (M (t + 5)) (M (u + 5)) j).1)), some (.int ((sbF (M 3) (M 2 1) (M 2 2) (M (t + 5)) (M (u + 5)) j).2)), some (.int (nI j)), some (.int (M (t + 5) j)), some (.int (M (u + 5) j)), none]) (st' := [.int (-1), .int (M (u + 5) j)]) (M' := M) rfl ⟨trivial, trivial, trivial⟩ ?_
        refine g_icmp_ne (off := 6) (tgt := 50) (by decide +kernel) (by decide) (fun c8 => ?_) (fun c8 => ?_)
        · refine blk 2 [(.iload 6, 0, 0, 0), (.iconst (-1), 0, 0, (-1))] [] (by decide +kernel) rfl (pc' := 53) (ls' := [some (.ref t), some (.ref u), some (.ref 2), some (.int ((sbF (M 3) (M 2 1) (M 2 2) (M (t + 5)) (M (u + 5)) j).1)), some (.int ((sbF (M 3) (M 2 1) (M 2 2) (M (t + 5)) (M (u + 5)) j).2)), some (.int (nI j)), some (.int (M (t + 5) j)), some (.int (M (u + 5) j)), none]) (st' := [.int (-1), .int (M (t + 5) j)]) (M' := M) rfl ⟨trivial, trivial, trivial⟩ ?_
          refine g_icmp_ne (off := 7) (tgt := 60) (by decide +kernel) (by decide) (fun c9 => ?_) (fun c9 => ?_)
          · exact absurd c2 c9
          · refine blk 2 [(.iconst 2, 0, 0, (nI 2)), (.goto (14), 71, 0, 0), (.istore 8, 0, 0, 0), (.iload 8, 0, 0, 0)] [] (by decide +kernel) rfl (pc' := 75) (ls' := [some (.ref t), some (.ref u), some (.ref 2), some (.int ((sbF (M 3) (M 2 1) (M 2 2) (M (t + 5)) (M (u + 5)) j).1)), some (.int ((sbF (M 3) (M 2 1) (M 2 2) (M (t + 5)) (M (u + 5)) j).2)), some (.int (nI j)), some (.int (M (t + 5) j)), some (.int (M (u + 5) j)), some (.int (nI 2))]) (st' := [.int (nI 2)]) (M' := M) rfl ⟨trivial, trivial, trivial, trivial, trivial⟩ ?_
            refine g_if_ne (off := 21) (tgt := 96) (by decide +kernel) (by decide) (fun c10 => ?_) (fun c10 => ?_)
            · refine blk 2 [(.iload_n 3, 0, 0, 0), (.aload_n 2, 0, 0, 0), (.getfield 39, 0, 2, 0), (.iload 8, 0, 0, 0), (.iload 4, 0, 0, 0)] [] (by decide +kernel) rfl (pc' := 105) (ls' := [some (.ref t), some (.ref u), some (.ref 2), some (.int ((sbF (M 3) (M 2 1) (M 2 2) (M (t + 5)) (M (u + 5)) j).1)), some (.int ((sbF (M 3) (M 2 1) (M 2 2) (M (t + 5)) (M (u + 5)) j).2)), some (.int (nI j)), some (.int (M (t + 5) j)), some (.int (M (u + 5) j)), some (.int (nI 2))]) (st' := [.int ((sbF (M 3) (M 2 1) (M 2 2) (M (t + 5)) (M (u + 5)) j).2), .int (nI 2), .int (M 2 2), .int ((sbF (M 3) (M 2 1) (M 2 2) (M (t + 5)) (M (u + 5)) j).1)]) (M' := M) rfl ⟨trivial, trivial, rfl, trivial, trivial, trivial⟩ ?_
              refine g_icmp_ne (off := 7) (tgt := 112) (by decide +kernel) (by decide) (fun c11 => ?_) (fun c11 => ?_)
              · refine blk 2 [(.aload_n 2, 0, 0, 0), (.getfield 42, 0, 1, 0), (.iadd, 0, 0, 0), (.isub, 0, 0, 0), (.istore_n 3, 0, 0, 0), (.iload 8, 0, 0, 0), (.istore 4, 0, 0, 0), (.iinc 5 1, 0, 0, (nI 1)), (.goto (-118), 8, 0, 0)] [] (by decide +kernel) rfl (pc' := 8) (ls' := [some (.ref t), some (.ref u), some (.ref 2), some (.int (((sbF (M 3) (M 2 1) (M 2 2) (M (t + 5)) (M (u + 5)) j).1) - ((M 2 2) + (M 2 1)))), some (.int (nI 2)), some (.int (nI j + nI 1)), some (.int (M (t + 5) j)), some (.int (M (u + 5) j)), some (.int (nI 2))]) (st' := []) (M' := M) rfl ⟨trivial, rfl, trivial, trivial, trivial, trivial, trivial, trivial, trivial, trivial⟩ ?_
                have e : sbF (M 3) (M 2 1) (M 2 2) (M (t + 5)) (M (u + 5)) (j + 1) = (((sbF (M 3) (M 2 1) (M 2 2) (M (t + 5)) (M (u + 5)) j).1) - ((M 2 2) + (M 2 1)), nI 2) := by
                  try clear ex ey
                  rw [sbF, sbS]; simp_all
                refine G.sub (ls' := [some (.ref t), some (.ref u), some (.ref 2), some (.int ((sbF (M 3) (M 2 1) (M 2 2) (M (t + 5)) (M (u + 5)) (j + 1)).1)), some (.int ((sbF (M 3) (M 2 1) (M 2 2) (M (t + 5)) (M (u + 5)) (j + 1)).2)), some (.int (nI (j + 1))), none, none, none]) ?_ ⟨rfl, rfl, rfl, congrArg (fun z => some (Value.int z)) (by rw [e]), congrArg (fun z => some (Value.int z)) (by rw [e]), congrArg (fun z => some (Value.int z)) (by simp only [nI_add, nI_s1]), trivial⟩
                exact ih (d - 1) (by omega) (j + 1) (by omega) (by omega)
              · refine blk 2 [(.iconst 0, 0, 0, (nI 0)), (.goto (7), 116, 0, 0), (.iadd, 0, 0, 0), (.isub, 0, 0, 0), (.istore_n 3, 0, 0, 0), (.iload 8, 0, 0, 0), (.istore 4, 0, 0, 0), (.iinc 5 1, 0, 0, (nI 1)), (.goto (-118), 8, 0, 0)] [] (by decide +kernel) rfl (pc' := 8) (ls' := [some (.ref t), some (.ref u), some (.ref 2), some (.int (((sbF (M 3) (M 2 1) (M 2 2) (M (t + 5)) (M (u + 5)) j).1) - ((M 2 2) + (nI 0)))), some (.int (nI 2)), some (.int (nI j + nI 1)), some (.int (M (t + 5) j)), some (.int (M (u + 5) j)), some (.int (nI 2))]) (st' := []) (M' := M) rfl ⟨trivial, trivial, trivial, trivial, trivial, trivial, trivial, trivial, trivial, trivial⟩ ?_
                have e : sbF (M 3) (M 2 1) (M 2 2) (M (t + 5)) (M (u + 5)) (j + 1) = (((sbF (M 3) (M 2 1) (M 2 2) (M (t + 5)) (M (u + 5)) j).1) - ((M 2 2) + (nI 0)), nI 2) := by
                  try clear ex ey
                  rw [sbF, sbS]; simp_all
                refine G.sub (ls' := [some (.ref t), some (.ref u), some (.ref 2), some (.int ((sbF (M 3) (M 2 1) (M 2 2) (M (t + 5)) (M (u + 5)) (j + 1)).1)), some (.int ((sbF (M 3) (M 2 1) (M 2 2) (M (t + 5)) (M (u + 5)) (j + 1)).2)), some (.int (nI (j + 1))), none, none, none]) ?_ ⟨rfl, rfl, rfl, congrArg (fun z => some (Value.int z)) (by rw [e]), congrArg (fun z => some (Value.int z)) (by rw [e]), congrArg (fun z => some (Value.int z)) (by simp only [nI_add, nI_s1]), trivial⟩
                exact ih (d - 1) (by omega) (j + 1) (by omega) (by omega)
            · exact absurd c10 (by decide +kernel)
        · refine blk 2 [(.goto (76), 123, 0, 0), (.iinc 5 1, 0, 0, (nI 1)), (.goto (-118), 8, 0, 0)] [] (by decide +kernel) rfl (pc' := 8) (ls' := [some (.ref t), some (.ref u), some (.ref 2), some (.int ((sbF (M 3) (M 2 1) (M 2 2) (M (t + 5)) (M (u + 5)) j).1)), some (.int ((sbF (M 3) (M 2 1) (M 2 2) (M (t + 5)) (M (u + 5)) j).2)), some (.int (nI j + nI 1)), some (.int (M (t + 5) j)), some (.int (M (u + 5) j)), none]) (st' := []) (M' := M) rfl ⟨trivial, trivial, trivial, trivial⟩ ?_
          have e : sbF (M 3) (M 2 1) (M 2 2) (M (t + 5)) (M (u + 5)) (j + 1) = ((sbF (M 3) (M 2 1) (M 2 2) (M (t + 5)) (M (u + 5)) j).1, (sbF (M 3) (M 2 1) (M 2 2) (M (t + 5)) (M (u + 5)) j).2) := by
            try clear ex ey
            rw [sbF, sbS]; simp_all
          refine G.sub (ls' := [some (.ref t), some (.ref u), some (.ref 2), some (.int ((sbF (M 3) (M 2 1) (M 2 2) (M (t + 5)) (M (u + 5)) (j + 1)).1)), some (.int ((sbF (M 3) (M 2 1) (M 2 2) (M (t + 5)) (M (u + 5)) (j + 1)).2)), some (.int (nI (j + 1))), none, none, none]) ?_ ⟨rfl, rfl, rfl, congrArg (fun z => some (Value.int z)) (by rw [e]), congrArg (fun z => some (Value.int z)) (by rw [e]), congrArg (fun z => some (Value.int z)) (by simp only [nI_add, nI_s1]), trivial⟩
          exact ih (d - 1) (by omega) (j + 1) (by omega) (by omega)
theorem s_beside (M : Mem) {t u w : Nat} (hk : kd t = 2) (hk2 : kd u = 2) (hw : M t 1 = nI w) (hl : w ≤ al (t + 5)) (hl2 : w ≤ al (u + 5)) (hx : ∀ k, k < w → okc (M (t + 5) k)) (hy : ∀ k, k < w → okc (M (u + 5) k)) : Spec mX2_scoreBeside [.ref t, .ref u, .ref 2] M (Ret (sbF (M 3) (M 2 1) (M 2 2) (M (t + 5)) (M (u + 5)) w).1 M) := by
  refine Spec.of (by decide) (by simp [Value.category]) (Nat.le_of_ble_eq_true rfl) ?_
  refine blk 2 [(.iconst 0, 0, 0, (nI 0)), (.istore_n 3, 0, 0, 0), (.iconst 0, 0, 0, (nI 0)), (.istore 4, 0, 0, 0), (.iconst 0, 0, 0, (nI 0)), (.istore 5, 0, 0, 0)] [] (by decide +kernel) rfl (pc' := 8) (ls' := [some (.ref t), some (.ref u), some (.ref 2), some (.int (nI 0)), some (.int (nI 0)), some (.int (nI 0)), none, none, none]) (st' := []) (M' := M) rfl ⟨trivial, trivial, trivial, trivial, trivial, trivial, trivial⟩ ?_
  exact l_beside hk hk2 hw hl hl2 hx hy ⟨rfl, rfl⟩ _ 0 rfl (by omega)
end
section
/-! sheets: reading -/
def anyB (p : Nat → Bool) : Nat → Bool
  | 0 => false
  | n + 1 => anyB p n || p n
def allB (p : Nat → Bool) : Nat → Bool
  | 0 => true
  | n + 1 => allB p n && p n
theorem anyB_of {p : Nat → Bool} {n i : Nat} (hi : i < n) (h : p i = true) : anyB p n = true := by
  induction n with
  | zero => omega
  | succ n ih =>
    rw [anyB, Bool.or_eq_true]
    by_cases e : i = n
    · subst e; exact Or.inr h
    · exact Or.inl (ih (by omega))
theorem anyB_iff {p : Nat → Bool} {n : Nat} : anyB p n = true ↔ ∃ i, i < n ∧ p i = true := by
  constructor
  · induction n with
    | zero => intro h; cases h
    | succ n ih =>
      intro h
      rw [anyB, Bool.or_eq_true] at h
      rcases h with h | h
      · obtain ⟨i, h1, h2⟩ := ih h; exact ⟨i, by omega, h2⟩
      · exact ⟨n, by omega, h⟩
  · rintro ⟨i, h1, h2⟩; exact anyB_of h1 h2
theorem allB_iff {p : Nat → Bool} {n : Nat} : allB p n = true ↔ ∀ i, i < n → p i = true := by
  induction n with
  | zero => exact ⟨fun _ i h => by omega, fun _ => rfl⟩
  | succ n ih =>
    rw [allB, Bool.and_eq_true, ih]
    exact ⟨fun h i hi => by
      by_cases e : i = n
      · subst e; exact h.2
      · exact h.1 i (by omega), fun h => ⟨fun i hi => h i (by omega), h n (by omega)⟩⟩
theorem allB_not {p : Nat → Bool} {n i : Nat} (hi : i < n) (h : p i = false) : allB p n = false := by
  cases e : allB p n with
  | false => rfl
  | true => rw [allB_iff.mp e i hi] at h; cases h
/-- true as an int -/
def bI (b : Bool) : Int32 := if b then 1 else 0
theorem hb_01 (S : Int32) (w : Nat) : hb S w = 0 ∨ hb S w = 1 := by unfold hb; split <;> simp
theorem al56 {i : Nat} (h : i < 5) : al (51 + i + 5) = 60 := (by decide : ∀ i, i < 5 → al (51 + i + 5) = 60) i h
theorem al66 {i : Nat} (h : i < 5) : al (61 + i + 5) = 60 := (by decide : ∀ i, i < 5 → al (61 + i + 5) = 60) i h
theorem al46 {i : Nat} (h : i < 5) : al (41 + i + 5) = 12 := (by decide : ∀ i, i < 5 → al (41 + i + 5) = 12) i h
theorem kd51 {i : Nat} (h : i < 5) : kd (51 + i) = 2 := (by decide : ∀ i, i < 5 → kd (51 + i) = 2) i h
theorem kd61 {i : Nat} (h : i < 5) : kd (61 + i) = 2 := (by decide : ∀ i, i < 5 → kd (61 + i) = 2) i h
theorem kd41 {i : Nat} (h : i < 5) : kd (41 + i) = 2 := (by decide : ∀ i, i < 5 → kd (41 + i) = 2) i h
theorem kd56 {i : Nat} (h : i < 5) : kd (51 + i + 5) = 8 := (by decide : ∀ i, i < 5 → kd (51 + i + 5) = 8) i h
theorem kd66 {i : Nat} (h : i < 5) : kd (61 + i + 5) = 8 := (by decide : ∀ i, i < 5 → kd (61 + i + 5) = 8) i h
theorem kd46 {i : Nat} (h : i < 5) : kd (41 + i + 5) = 8 := (by decide : ∀ i, i < 5 → kd (41 + i + 5) = 8) i h
/-- the two sheets: a sheet's tag and its first row's -/
def shp (σ B : Nat) : Prop := (σ = 35 ∧ B = 51) ∨ (σ = 37 ∧ B = 61)
def hasF (M : Mem) (B : Nat) (S : Int32) (k : Nat) : Nat → Bool := fun i => decide (hb S i ≠ 0 ∧ M (B + i + 5) k ≠ -1)
def cntF (M : Mem) (B k x : Nat) : Nat → Int32 := fun i => if M (B + i + 5) k = nI x then 1 else 0
def pmax (f : Nat → Int32) : Nat → Int32
  | 0 => 0
  | n + 1 => if pmax f n < f n then f n else pmax f n
def aspF (M : Mem) (B k i : Nat) : Nat → Bool := fun j => decide (M (B + i + 5) k ≠ -1 ∧ M (B + j + 5) k ≠ -1 ∧ 0 < M 3 (cd (M (B + i + 5) k) * 4 + cd (M (B + j + 5) k)))
def sopF (M : Mem) (B w i : Nat) : Nat → Int32 := fun j => M 24 i * M 24 (i + 1 + j) * (sbF (M 3) (M 2 1) (M 2 2) (M (B + i + 5)) (M (B + (i + 1 + j) + 5)) w).1
theorem l_has35 {M : Mem} {S : Int32} {k : Nat} (hk : k < 60) : ∀ d i, d = 5 - i → i ≤ 5 → anyB (hasF M 51 S k) i = false → G mX3_hasLetter 2 [some (.ref 35), some (.int (nI k)), some (.int S), some (.int (nI i))] [] M (Ret (bI (anyB (hasF M 51 S k) 5)) M) := by
  intro d
  induction d using Nat.strongRecOn with
  | ind d ih =>
    intro i hd hj ha
    refine blk 3 [(.iload_n 3, 0, 0, 0), (.iconst 5, 0, 0, (nI 5))] [] (by decide +kernel) rfl (pc' := 4) (ls' := [some (.ref 35), some (.int (nI k)), some (.int S), some (.int (nI i))]) (st' := [.int (nI 5), .int (nI i)]) (M' := M) rfl ⟨trivial, trivial, trivial⟩ ?_
    refine g_icmp_ge (off := 34) (tgt := 38) (by decide +kernel) (by decide) (fun c1 => ?_) (fun c1 => ?_)
    · have nc1 : 5 ≤ i := (nI_leI (by omega) (by omega)).mp (by simpa only [nI_add, pk_mul, nI_s1, n0_lit] using c1)
      refine blk 3 [(.iconst 0, 0, 0, (nI 0))] [] (by decide +kernel) rfl (pc' := 39) (ls' := [some (.ref 35), some (.int (nI k)), some (.int S), some (.int (nI i))]) (st' := [.int (nI 0)]) (M' := M) rfl ⟨trivial, trivial⟩ ?_
      have e : i = 5 := by omega
      subst e
      refine g_ireturn (by decide +kernel) rfl (by decide) ⟨?_, rfl⟩
      rw [ha]; rfl
    · have nc1 : i < 5 := by
        have z : ¬ nI 5 ≤ nI i := by simpa only [nI_add, pk_mul, nI_s1, n0_lit] using c1
        rw [nI_leI (by omega) (by omega)] at z
        omega
      refine blk 3 [(.iload_n 2, 0, 0, 0), (.iload_n 3, 0, 0, 0)] [] (by decide +kernel) rfl (pc' := 9) (ls' := [some (.ref 35), some (.int (nI k)), some (.int S), some (.int (nI i))]) (st' := [.int (nI i), .int S]) (M' := M) rfl ⟨trivial, trivial, trivial⟩ ?_
      refine g_callN (index := 28) (s_holds _ S i) rfl (by decide) ⟨ok_X6_holds.1, ok_X6_holds.2.1, ok_X6_holds.2.2.1, ok_X6_holds.2.2.2, by decide +kernel, by decide +kernel⟩ (by decide +kernel) rfl (Nat.le_of_ble_eq_true rfl) (fun r M' h => ?_) rfl
      obtain ⟨hr, hM⟩ := h
      rw [hr, hM]
      show G _ 12 [some (.ref 35), some (.int (nI k)), some (.int S), some (.int (nI i))] [.int (hb S i)] M _
      refine g_if_eq (off := 20) (tgt := 32) (by decide +kernel) (by decide) (fun c2 => ?_) (fun c2 => ?_)
      · refine blk 3 [(.iinc 3 1, 0, 0, (nI 1)), (.goto (-33), 2, 0, 0)] [] (by decide +kernel) rfl (pc' := 2) (ls' := [some (.ref 35), some (.int (nI k)), some (.int S), some (.int (nI i + nI 1))]) (st' := []) (M' := M) rfl ⟨trivial, trivial, trivial⟩ ?_
        refine G.sub (ls' := [some (.ref 35), some (.int (nI k)), some (.int S), some (.int (nI (i + 1)))]) ?_ ⟨rfl, rfl, rfl, congrArg (fun z => some (Value.int z)) (nI_add _ _), trivial⟩
        exact ih (d - 1) (by omega) (i + 1) (by omega) (by omega) (by rw [anyB, ha, Bool.false_or]; simp only [hasF, decide_eq_false_iff_not]; simp_all)
      · refine blk 3 [(.aload_n 0, 0, 0, 0), (.getfield 11, 3, 0, 0), (.iload_n 3, 0, 0, 0), (.aaload, 0, 0, 0), (.getfield 31, 2, 0, 0), (.iload_n 1, 0, 0, 0), (.iaload, 0, 0, 0), (.iconst (-1), 0, 0, (-1))] [i, k] (by decide +kernel) rfl (pc' := 27) (ls' := [some (.ref 35), some (.int (nI k)), some (.int S), some (.int (nI i))]) (st' := [.int (-1), .int (M (51 + i + 5) k)]) (M' := M) rfl ⟨trivial, rfl, trivial, ⟨rfl, (by show _ < 5; omega)⟩, (kd51 (by omega)), trivial, ⟨rfl, (Nat.lt_of_lt_of_eq (by omega : k < 60) (al56 (i := i) (by omega)).symm)⟩, trivial, trivial⟩ ?_
        refine g_icmp_eq (off := 5) (tgt := 32) (by decide +kernel) (by decide) (fun c3 => ?_) (fun c3 => ?_)
        · refine blk 3 [(.iinc 3 1, 0, 0, (nI 1)), (.goto (-33), 2, 0, 0)] [] (by decide +kernel) rfl (pc' := 2) (ls' := [some (.ref 35), some (.int (nI k)), some (.int S), some (.int (nI i + nI 1))]) (st' := []) (M' := M) rfl ⟨trivial, trivial, trivial⟩ ?_
          refine G.sub (ls' := [some (.ref 35), some (.int (nI k)), some (.int S), some (.int (nI (i + 1)))]) ?_ ⟨rfl, rfl, rfl, congrArg (fun z => some (Value.int z)) (nI_add _ _), trivial⟩
          exact ih (d - 1) (by omega) (i + 1) (by omega) (by omega) (by rw [anyB, ha, Bool.false_or]; simp only [hasF, decide_eq_false_iff_not]; simp_all)
        · refine blk 3 [(.iconst 1, 0, 0, (nI 1))] [] (by decide +kernel) rfl (pc' := 31) (ls' := [some (.ref 35), some (.int (nI k)), some (.int S), some (.int (nI i))]) (st' := [.int (nI 1)]) (M' := M) rfl ⟨trivial, trivial⟩ ?_
          refine g_ireturn (by decide +kernel) rfl (by decide) ⟨?_, rfl⟩
          rw [show anyB (hasF M 51 S k) 5 = true from anyB_of (i := i) (by omega) (by simp only [hasF, decide_eq_true_eq]; exact ⟨c2, c3⟩)]; rfl
theorem s_has35 (M : Mem) (S : Int32) {k : Nat} (hk : k < 60) : Spec mX3_hasLetter [.ref 35, .int (nI k), .int S] M (Ret (bI (anyB (hasF M 51 S k) 5)) M) := by
  refine Spec.of (by decide) (by simp [Value.category]) (Nat.le_of_ble_eq_true rfl) ?_
  refine blk 3 [(.iconst 0, 0, 0, (nI 0)), (.istore_n 3, 0, 0, 0)] [] (by decide +kernel) rfl (pc' := 2) (ls' := [some (.ref 35), some (.int (nI k)), some (.int S), some (.int (nI 0))]) (st' := []) (M' := M) rfl ⟨trivial, trivial, trivial⟩ ?_
  exact l_has35 hk _ 0 rfl (by omega) rfl
theorem l_most235 {M : Mem} {k n x : Nat} {A : Int32} {Post : Option Value → Mem → Prop} (hk : k < 60) (hn : n ≤ 5) (hx : x < 4) (hp : G mX3_mostOfOneLetter 5 [some (.ref 35), some (.int (nI k)), some (.int (nI n)), some (.int (if A < psum (cntF M 51 k x) n then psum (cntF M 51 k x) n else A)), some (.int (nI (x + 1))), none, none] [] M Post) : ∀ d i, d = n - i → i ≤ n → G mX3_mostOfOneLetter 17 [some (.ref 35), some (.int (nI k)), some (.int (nI n)), some (.int A), some (.int (nI x)), some (.int (psum (cntF M 51 k x) i)), some (.int (nI i))] [] M Post := by
  intro d
  induction d using Nat.strongRecOn with
  | ind d ih =>
    intro i hd hj
    refine blk 3 [(.iload 6, 0, 0, 0), (.iload_n 2, 0, 0, 0)] [] (by decide +kernel) rfl (pc' := 20) (ls' := [some (.ref 35), some (.int (nI k)), some (.int (nI n)), some (.int A), some (.int (nI x)), some (.int (psum (cntF M 51 k x) i)), some (.int (nI i))]) (st' := [.int (nI n), .int (nI i)]) (M' := M) rfl ⟨trivial, trivial, trivial⟩ ?_
    refine g_icmp_ge (off := 29) (tgt := 49) (by decide +kernel) (by decide) (fun c1 => ?_) (fun c1 => ?_)
    · have nc1 : n ≤ i := (nI_leI (by omega) (by omega)).mp (by simpa only [nI_add, pk_mul, nI_s1, n0_lit] using c1)
      refine blk 3 [(.iload_n 3, 0, 0, 0), (.iload 5, 0, 0, 0)] [] (by decide +kernel) rfl (pc' := 52) (ls' := [some (.ref 35), some (.int (nI k)), some (.int (nI n)), some (.int A), some (.int (nI x)), some (.int (psum (cntF M 51 k x) i)), some (.int (nI i))]) (st' := [.int (psum (cntF M 51 k x) i), .int A]) (M' := M) rfl ⟨trivial, trivial, trivial⟩ ?_
      refine g_mmax (index := 39) (TB_in (by decide +kernel) (by decide +kernel)) (TB_in (by decide +kernel) (by decide +kernel)) (TB_in (by decide +kernel) (by decide +kernel)) (TB_in (by decide +kernel) (by decide +kernel)) (by decide) (Nat.le_of_ble_eq_true rfl) (by decide +kernel) ?_
      refine blk 3 [(.istore_n 3, 0, 0, 0), (.iinc 4 1, 0, 0, (nI 1)), (.goto (-54), 5, 0, 0)] [] (by decide +kernel) rfl (pc' := 5) (ls' := [some (.ref 35), some (.int (nI k)), some (.int (nI n)), some (.int (if A < (psum (cntF M 51 k x) i) then psum (cntF M 51 k x) i else A)), some (.int (nI x + nI 1)), some (.int (psum (cntF M 51 k x) i)), some (.int (nI i))]) (st' := []) (M' := M) rfl ⟨trivial, trivial, trivial, trivial⟩ ?_
      have e : i = n := by omega
      subst e
      refine G.sub (ls' := [some (.ref 35), some (.int (nI k)), some (.int (nI i)), some (.int (if A < psum (cntF M 51 k x) i then psum (cntF M 51 k x) i else A)), some (.int (nI (x + 1))), none, none]) ?_ ⟨rfl, rfl, congrArg (fun z => some (Value.int z)) rfl, congrArg (fun z => some (Value.int z)) rfl, congrArg (fun z => some (Value.int z)) (by simp only [nI_add, nI_s1]), trivial⟩
      exact hp
    · have nc1 : i < n := by
        have z : ¬ nI n ≤ nI i := by simpa only [nI_add, pk_mul, nI_s1, n0_lit] using c1
        rw [nI_leI (by omega) (by omega)] at z
        omega
      refine blk 3 [(.aload_n 0, 0, 0, 0), (.getfield 11, 3, 0, 0), (.iload 6, 0, 0, 0), (.aaload, 0, 0, 0), (.getfield 31, 2, 0, 0), (.iload_n 1, 0, 0, 0), (.iaload, 0, 0, 0), (.iload 4, 0, 0, 0)] [i, k] (by decide +kernel) rfl (pc' := 37) (ls' := [some (.ref 35), some (.int (nI k)), some (.int (nI n)), some (.int A), some (.int (nI x)), some (.int (psum (cntF M 51 k x) i)), some (.int (nI i))]) (st' := [.int (nI x), .int (M (51 + i + 5) k)]) (M' := M) rfl ⟨trivial, rfl, trivial, ⟨rfl, (by show _ < 5; omega)⟩, (kd51 (by omega)), trivial, ⟨rfl, (Nat.lt_of_lt_of_eq (by omega : k < 60) (al56 (i := i) (by omega)).symm)⟩, trivial, trivial⟩ ?_
      refine g_icmp_ne (off := 6) (tgt := 43) (by decide +kernel) (by decide) (fun c2 => ?_) (fun c2 => ?_)
      · refine blk 3 [(.iinc 6 1, 0, 0, (nI 1)), (.goto (-29), 17, 0, 0)] [] (by decide +kernel) rfl (pc' := 17) (ls' := [some (.ref 35), some (.int (nI k)), some (.int (nI n)), some (.int A), some (.int (nI x)), some (.int (psum (cntF M 51 k x) i)), some (.int (nI i + nI 1))]) (st' := []) (M' := M) rfl ⟨trivial, trivial, trivial⟩ ?_
        have e : psum (cntF M 51 k x) (i + 1) = psum (cntF M 51 k x) i := by
          rw [psum, show cntF M 51 k x i = 0 by simp only [cntF]; simp_all]; exact Int32.add_zero _
        refine G.sub (ls' := [some (.ref 35), some (.int (nI k)), some (.int (nI n)), some (.int A), some (.int (nI x)), some (.int (psum (cntF M 51 k x) (i + 1))), some (.int (nI (i + 1)))]) ?_ ⟨rfl, rfl, rfl, rfl, rfl, congrArg (fun z => some (Value.int z)) e.symm, congrArg (fun z => some (Value.int z)) (by simp only [nI_add, nI_s1]), trivial⟩
        exact ih (d - 1) (by omega) (i + 1) (by omega) (by omega)
      · refine blk 3 [(.iinc 5 1, 0, 0, (nI 1)), (.iinc 6 1, 0, 0, (nI 1)), (.goto (-29), 17, 0, 0)] [] (by decide +kernel) rfl (pc' := 17) (ls' := [some (.ref 35), some (.int (nI k)), some (.int (nI n)), some (.int A), some (.int (nI x)), some (.int (psum (cntF M 51 k x) i + nI 1)), some (.int (nI i + nI 1))]) (st' := []) (M' := M) rfl ⟨trivial, trivial, trivial, trivial⟩ ?_
        have e : psum (cntF M 51 k x) (i + 1) = psum (cntF M 51 k x) i + nI 1 := by
          rw [psum, show cntF M 51 k x i = 1 by simp only [cntF]; simp_all]; rfl
        refine G.sub (ls' := [some (.ref 35), some (.int (nI k)), some (.int (nI n)), some (.int A), some (.int (nI x)), some (.int (psum (cntF M 51 k x) (i + 1))), some (.int (nI (i + 1)))]) ?_ ⟨rfl, rfl, rfl, rfl, rfl, congrArg (fun z => some (Value.int z)) e.symm, congrArg (fun z => some (Value.int z)) (by simp only [nI_add, nI_s1]), trivial⟩
        exact ih (d - 1) (by omega) (i + 1) (by omega) (by omega)
theorem l_most35 {M : Mem} {k n : Nat} (hk : k < 60) (hn : n ≤ 5) : ∀ d x, d = 4 - x → x ≤ 4 → G mX3_mostOfOneLetter 5 [some (.ref 35), some (.int (nI k)), some (.int (nI n)), some (.int (pmax (fun x => psum (cntF M 51 k x) n) x)), some (.int (nI x)), none, none] [] M (Ret (pmax (fun x => psum (cntF M 51 k x) n) 4) M) := by
  intro d
  induction d using Nat.strongRecOn with
  | ind d ih =>
    intro x hd hj
    refine blk 3 [(.iload 4, 0, 0, 0), (.iconst 4, 0, 0, (nI 4))] [] (by decide +kernel) rfl (pc' := 8) (ls' := [some (.ref 35), some (.int (nI k)), some (.int (nI n)), some (.int (pmax (fun x => psum (cntF M 51 k x) n) x)), some (.int (nI x)), none, none]) (st' := [.int (nI 4), .int (nI x)]) (M' := M) rfl ⟨trivial, trivial, trivial⟩ ?_
    refine g_icmp_ge (off := 54) (tgt := 62) (by decide +kernel) (by decide) (fun c1 => ?_) (fun c1 => ?_)
    · have nc1 : 4 ≤ x := (nI_leI (by omega) (by omega)).mp (by simpa only [nI_add, pk_mul, nI_s1, n0_lit] using c1)
      refine blk 3 [(.iload_n 3, 0, 0, 0)] [] (by decide +kernel) rfl (pc' := 63) (ls' := [some (.ref 35), some (.int (nI k)), some (.int (nI n)), some (.int (pmax (fun x => psum (cntF M 51 k x) n) x)), some (.int (nI x)), none, none]) (st' := [.int (pmax (fun x => psum (cntF M 51 k x) n) x)]) (M' := M) rfl ⟨trivial, trivial⟩ ?_
      have e : x = 4 := by omega
      subst e
      exact g_ireturn (by decide +kernel) rfl rfl ⟨rfl, rfl⟩
    · have nc1 : x < 4 := by
        have z : ¬ nI 4 ≤ nI x := by simpa only [nI_add, pk_mul, nI_s1, n0_lit] using c1
        rw [nI_leI (by omega) (by omega)] at z
        omega
      refine blk 3 [(.iconst 0, 0, 0, (nI 0)), (.istore 5, 0, 0, 0), (.iconst 0, 0, 0, (nI 0)), (.istore 6, 0, 0, 0)] [] (by decide +kernel) rfl (pc' := 17) (ls' := [some (.ref 35), some (.int (nI k)), some (.int (nI n)), some (.int (pmax (fun x => psum (cntF M 51 k x) n) x)), some (.int (nI x)), some (.int (nI 0)), some (.int (nI 0))]) (st' := []) (M' := M) rfl ⟨trivial, trivial, trivial, trivial, trivial⟩ ?_
      exact l_most235 hk hn (by omega) (ih (d - 1) (by omega) (x + 1) (by omega) (by omega)) _ 0 rfl (by omega)
theorem s_most35 (M : Mem) {k n : Nat} (hk : k < 60) (hn : n ≤ 5) : Spec mX3_mostOfOneLetter [.ref 35, .int (nI k), .int (nI n)] M (Ret (pmax (fun x => psum (cntF M 51 k x) n) 4) M) := by
  refine Spec.of (by decide) (by simp [Value.category]) (Nat.le_of_ble_eq_true rfl) ?_
  refine blk 3 [(.iconst 0, 0, 0, (nI 0)), (.istore_n 3, 0, 0, 0), (.iconst 0, 0, 0, (nI 0)), (.istore 4, 0, 0, 0)] [] (by decide +kernel) rfl (pc' := 5) (ls' := [some (.ref 35), some (.int (nI k)), some (.int (nI n)), some (.int (nI 0)), some (.int (nI 0)), none, none]) (st' := []) (M' := M) rfl ⟨trivial, trivial, trivial, trivial, trivial⟩ ?_
  exact l_most35 hk hn _ 0 rfl (by omega)
theorem l_asp235 {M : Mem} {k n i : Nat} {Post : Option Value → Mem → Prop} (hk : k < 60) (hn : n ≤ 5) (hi : i < n) (hc : ∀ a b, a < 5 → b < k + 1 → okc (M (51 + a + 5) b)) (hp : allB (aspF M 51 k i) i = true → G mX3_allScoresPositive 3 [some (.ref 35), some (.int (nI k)), some (.int (nI n)), some (.ref 2), some (.int (nI (i + 1))), none, none, none] [] M Post) (hf : allB (aspF M 51 k i) i = false → Post (some (.int (nI 0))) M) : ∀ d j, d = i - j → j ≤ i → allB (aspF M 51 k i) j = true → G mX3_allScoresPositive 12 [some (.ref 35), some (.int (nI k)), some (.int (nI n)), some (.ref 2), some (.int (nI i)), some (.int (nI j)), none, none] [] M Post := by
  intro d
  induction d using Nat.strongRecOn with
  | ind d ih =>
    intro j hd hj ha
    refine blk 3 [(.iload 5, 0, 0, 0), (.iload 4, 0, 0, 0)] [] (by decide +kernel) rfl (pc' := 16) (ls' := [some (.ref 35), some (.int (nI k)), some (.int (nI n)), some (.ref 2), some (.int (nI i)), some (.int (nI j)), none, none]) (st' := [.int (nI i), .int (nI j)]) (M' := M) rfl ⟨trivial, trivial, trivial⟩ ?_
    refine g_icmp_ge (off := 66) (tgt := 82) (by decide +kernel) (by decide) (fun c1 => ?_) (fun c1 => ?_)
    · have nc1 : i ≤ j := (nI_leI (by omega) (by omega)).mp (by simpa only [nI_add, pk_mul, nI_s1, n0_lit] using c1)
      refine blk 3 [(.iinc 4 1, 0, 0, (nI 1)), (.goto (-82), 3, 0, 0)] [] (by decide +kernel) rfl (pc' := 3) (ls' := [some (.ref 35), some (.int (nI k)), some (.int (nI n)), some (.ref 2), some (.int (nI i + nI 1)), some (.int (nI j)), none, none]) (st' := []) (M' := M) rfl ⟨trivial, trivial, trivial⟩ ?_
      have e : j = i := by omega
      subst e
      refine G.sub (ls' := [some (.ref 35), some (.int (nI k)), some (.int (nI n)), some (.ref 2), some (.int (nI (j + 1))), none, none, none]) ?_ ⟨rfl, rfl, rfl, rfl, congrArg (fun z => some (Value.int z)) (nI_add _ _), trivial⟩
      exact hp ha
    · have nc1 : j < i := by
        have z : ¬ nI i ≤ nI j := by simpa only [nI_add, pk_mul, nI_s1, n0_lit] using c1
        rw [nI_leI (by omega) (by omega)] at z
        omega
      refine blk 3 [(.aload_n 0, 0, 0, 0), (.getfield 11, 3, 0, 0), (.iload 4, 0, 0, 0), (.aaload, 0, 0, 0), (.getfield 31, 2, 0, 0), (.iload_n 1, 0, 0, 0), (.iaload, 0, 0, 0), (.istore 6, 0, 0, 0), (.aload_n 0, 0, 0, 0), (.getfield 11, 3, 0, 0), (.iload 5, 0, 0, 0), (.aaload, 0, 0, 0), (.getfield 31, 2, 0, 0), (.iload_n 1, 0, 0, 0), (.iaload, 0, 0, 0), (.istore 7, 0, 0, 0), (.iload 6, 0, 0, 0), (.iconst (-1), 0, 0, (-1))] [i, k, j, k] (by decide +kernel) rfl (pc' := 50) (ls' := [some (.ref 35), some (.int (nI k)), some (.int (nI n)), some (.ref 2), some (.int (nI i)), some (.int (nI j)), some (.int (M (51 + i + 5) k)), some (.int (M (51 + j + 5) k))]) (st' := [.int (-1), .int (M (51 + i + 5) k)]) (M' := M) rfl ⟨trivial, rfl, trivial, ⟨rfl, (by show _ < 5; omega)⟩, (kd51 (by omega)), trivial, ⟨rfl, (Nat.lt_of_lt_of_eq (by omega : k < 60) (al56 (i := i) (by omega)).symm)⟩, trivial, trivial, rfl, trivial, ⟨rfl, (by show _ < 5; omega)⟩, (kd51 (by omega)), trivial, ⟨rfl, (Nat.lt_of_lt_of_eq (by omega : k < 60) (al56 (i := j) (by omega)).symm)⟩, trivial, trivial, trivial, trivial⟩ ?_
      refine g_icmp_eq (off := 24) (tgt := 74) (by decide +kernel) (by decide) (fun c2 => ?_) (fun c2 => ?_)
      · refine blk 3 [(.iconst 0, 0, 0, (nI 0))] [] (by decide +kernel) rfl (pc' := 75) (ls' := [some (.ref 35), some (.int (nI k)), some (.int (nI n)), some (.ref 2), some (.int (nI i)), some (.int (nI j)), some (.int (M (51 + i + 5) k)), some (.int (M (51 + j + 5) k))]) (st' := [.int (nI 0)]) (M' := M) rfl ⟨trivial, trivial⟩ ?_
        refine g_ireturn (by decide +kernel) rfl (by decide) (hf ?_)
        refine allB_not (i := j) (by omega) ?_
        simp only [aspF, decide_eq_false_iff_not]; exact fun z => z.1 c2
      · refine blk 3 [(.iload 7, 0, 0, 0), (.iconst (-1), 0, 0, (-1))] [] (by decide +kernel) rfl (pc' := 56) (ls' := [some (.ref 35), some (.int (nI k)), some (.int (nI n)), some (.ref 2), some (.int (nI i)), some (.int (nI j)), some (.int (M (51 + i + 5) k)), some (.int (M (51 + j + 5) k))]) (st' := [.int (-1), .int (M (51 + j + 5) k)]) (M' := M) rfl ⟨trivial, trivial, trivial⟩ ?_
        refine g_icmp_eq (off := 18) (tgt := 74) (by decide +kernel) (by decide) (fun c3 => ?_) (fun c3 => ?_)
        · refine blk 3 [(.iconst 0, 0, 0, (nI 0))] [] (by decide +kernel) rfl (pc' := 75) (ls' := [some (.ref 35), some (.int (nI k)), some (.int (nI n)), some (.ref 2), some (.int (nI i)), some (.int (nI j)), some (.int (M (51 + i + 5) k)), some (.int (M (51 + j + 5) k))]) (st' := [.int (nI 0)]) (M' := M) rfl ⟨trivial, trivial⟩ ?_
          refine g_ireturn (by decide +kernel) rfl (by decide) (hf ?_)
          refine allB_not (i := j) (by omega) ?_
          simp only [aspF, decide_eq_false_iff_not]; exact fun z => z.2.1 c3
        · have ex := okc_cd (hc i k (by omega) (by omega)) c2
          have ey := okc_cd (hc j k (by omega) (by omega)) c3
          refine blk 3 [(.aload_n 3, 0, 0, 0), (.getfield 45, 0, 0, 0), (.iload 6, 0, 0, 0), (.iconst 4, 0, 0, (nI 4)), (.imul, 0, 0, 0), (.iload 7, 0, 0, 0), (.iadd, 0, 0, 0), (.iaload, 0, 0, 0)] [cd (M (51 + i + 5) k) * 4 + cd (M (51 + j + 5) k)] (by decide +kernel) rfl (pc' := 71) (ls' := [some (.ref 35), some (.int (nI k)), some (.int (nI n)), some (.ref 2), some (.int (nI i)), some (.int (nI j)), some (.int (M (51 + i + 5) k)), some (.int (M (51 + j + 5) k))]) (st' := [.int (M 3 (cd (M (51 + i + 5) k) * 4 + cd (M (51 + j + 5) k)))]) (M' := M) rfl ⟨trivial, rfl, trivial, trivial, trivial, trivial, trivial, ⟨(ixx ex.1 ey.1), (by show _ < 16; omega)⟩, trivial⟩ ?_
          refine g_if_gt (off := 5) (tgt := 76) (by decide +kernel) (by decide) (fun c4 => ?_) (fun c4 => ?_)
          · refine blk 3 [(.iinc 5 1, 0, 0, (nI 1)), (.goto (-67), 12, 0, 0)] [] (by decide +kernel) rfl (pc' := 12) (ls' := [some (.ref 35), some (.int (nI k)), some (.int (nI n)), some (.ref 2), some (.int (nI i)), some (.int (nI j + nI 1)), some (.int (M (51 + i + 5) k)), some (.int (M (51 + j + 5) k))]) (st' := []) (M' := M) rfl ⟨trivial, trivial, trivial⟩ ?_
            refine G.sub (ls' := [some (.ref 35), some (.int (nI k)), some (.int (nI n)), some (.ref 2), some (.int (nI i)), some (.int (nI (j + 1))), none, none]) ?_ ⟨rfl, rfl, rfl, rfl, rfl, congrArg (fun z => some (Value.int z)) (by simp only [nI_add, nI_s1]), trivial⟩
            exact ih (d - 1) (by omega) (j + 1) (by omega) (by omega) (by rw [allB, ha, Bool.true_and]; simp only [aspF, decide_eq_true_eq]; exact ⟨c2, c3, c4⟩)
          · refine blk 3 [(.iconst 0, 0, 0, (nI 0))] [] (by decide +kernel) rfl (pc' := 75) (ls' := [some (.ref 35), some (.int (nI k)), some (.int (nI n)), some (.ref 2), some (.int (nI i)), some (.int (nI j)), some (.int (M (51 + i + 5) k)), some (.int (M (51 + j + 5) k))]) (st' := [.int (nI 0)]) (M' := M) rfl ⟨trivial, trivial⟩ ?_
            refine g_ireturn (by decide +kernel) rfl (by decide) (hf ?_)
            refine allB_not (i := j) (by omega) ?_
            simp only [aspF, decide_eq_false_iff_not]; exact fun z => c4 z.2.2
theorem l_asp35 {M : Mem} {k n : Nat} (hk : k < 60) (hn : n ≤ 5) (hc : ∀ a b, a < 5 → b < k + 1 → okc (M (51 + a + 5) b)) : ∀ d i, d = n - i → i ≤ n → allB (fun i => allB (aspF M 51 k i) i) i = true → G mX3_allScoresPositive 3 [some (.ref 35), some (.int (nI k)), some (.int (nI n)), some (.ref 2), some (.int (nI i)), none, none, none] [] M (Ret (bI (allB (fun i => allB (aspF M 51 k i) i) n)) M) := by
  intro d
  induction d using Nat.strongRecOn with
  | ind d ih =>
    intro i hd hj ha
    refine blk 3 [(.iload 4, 0, 0, 0), (.iload_n 2, 0, 0, 0)] [] (by decide +kernel) rfl (pc' := 6) (ls' := [some (.ref 35), some (.int (nI k)), some (.int (nI n)), some (.ref 2), some (.int (nI i)), none, none, none]) (st' := [.int (nI n), .int (nI i)]) (M' := M) rfl ⟨trivial, trivial, trivial⟩ ?_
    refine g_icmp_ge (off := 82) (tgt := 88) (by decide +kernel) (by decide) (fun c1 => ?_) (fun c1 => ?_)
    · have nc1 : n ≤ i := (nI_leI (by omega) (by omega)).mp (by simpa only [nI_add, pk_mul, nI_s1, n0_lit] using c1)
      refine blk 3 [(.iconst 1, 0, 0, (nI 1))] [] (by decide +kernel) rfl (pc' := 89) (ls' := [some (.ref 35), some (.int (nI k)), some (.int (nI n)), some (.ref 2), some (.int (nI i)), none, none, none]) (st' := [.int (nI 1)]) (M' := M) rfl ⟨trivial, trivial⟩ ?_
      have e : i = n := by omega
      subst e
      refine g_ireturn (by decide +kernel) rfl (by decide) ⟨?_, rfl⟩
      rw [ha]; rfl
    · have nc1 : i < n := by
        have z : ¬ nI n ≤ nI i := by simpa only [nI_add, pk_mul, nI_s1, n0_lit] using c1
        rw [nI_leI (by omega) (by omega)] at z
        omega
      refine blk 3 [(.iconst 0, 0, 0, (nI 0)), (.istore 5, 0, 0, 0)] [] (by decide +kernel) rfl (pc' := 12) (ls' := [some (.ref 35), some (.int (nI k)), some (.int (nI n)), some (.ref 2), some (.int (nI i)), some (.int (nI 0)), none, none]) (st' := []) (M' := M) rfl ⟨trivial, trivial, trivial⟩ ?_
      refine l_asp235 hk hn (by omega) hc (fun h => ih (d - 1) (by omega) (i + 1) (by omega) (by omega) (by rw [allB, ha, h]; rfl)) (fun h => ⟨?_, rfl⟩) _ 0 rfl (by omega) rfl
      rw [show allB (fun i => allB (aspF M 51 k i) i) n = false from allB_not (i := i) (by omega) h]; rfl
theorem s_asp35 (M : Mem) {k n : Nat} (hk : k < 60) (hn : n ≤ 5) (hc : ∀ a b, a < 5 → b < k + 1 → okc (M (51 + a + 5) b)) : Spec mX3_allScoresPositive [.ref 35, .int (nI k), .int (nI n), .ref 2] M (Ret (bI (allB (fun i => allB (aspF M 51 k i) i) n)) M) := by
  refine Spec.of (by decide) (by simp [Value.category]) (Nat.le_of_ble_eq_true rfl) ?_
  refine blk 3 [(.iconst 0, 0, 0, (nI 0)), (.istore 4, 0, 0, 0)] [] (by decide +kernel) rfl (pc' := 3) (ls' := [some (.ref 35), some (.int (nI k)), some (.int (nI n)), some (.ref 2), some (.int (nI 0)), none, none, none]) (st' := []) (M' := M) rfl ⟨trivial, trivial, trivial⟩ ?_
  exact l_asp35 hk hn hc _ 0 rfl (by omega) rfl
theorem l_has37 {M : Mem} {S : Int32} {k : Nat} (hk : k < 60) : ∀ d i, d = 5 - i → i ≤ 5 → anyB (hasF M 61 S k) i = false → G mX3_hasLetter 2 [some (.ref 37), some (.int (nI k)), some (.int S), some (.int (nI i))] [] M (Ret (bI (anyB (hasF M 61 S k) 5)) M) := by
  intro d
  induction d using Nat.strongRecOn with
  | ind d ih =>
    intro i hd hj ha
    refine blk 3 [(.iload_n 3, 0, 0, 0), (.iconst 5, 0, 0, (nI 5))] [] (by decide +kernel) rfl (pc' := 4) (ls' := [some (.ref 37), some (.int (nI k)), some (.int S), some (.int (nI i))]) (st' := [.int (nI 5), .int (nI i)]) (M' := M) rfl ⟨trivial, trivial, trivial⟩ ?_
    refine g_icmp_ge (off := 34) (tgt := 38) (by decide +kernel) (by decide) (fun c1 => ?_) (fun c1 => ?_)
    · have nc1 : 5 ≤ i := (nI_leI (by omega) (by omega)).mp (by simpa only [nI_add, pk_mul, nI_s1, n0_lit] using c1)
      refine blk 3 [(.iconst 0, 0, 0, (nI 0))] [] (by decide +kernel) rfl (pc' := 39) (ls' := [some (.ref 37), some (.int (nI k)), some (.int S), some (.int (nI i))]) (st' := [.int (nI 0)]) (M' := M) rfl ⟨trivial, trivial⟩ ?_
      have e : i = 5 := by omega
      subst e
      refine g_ireturn (by decide +kernel) rfl (by decide) ⟨?_, rfl⟩
      rw [ha]; rfl
    · have nc1 : i < 5 := by
        have z : ¬ nI 5 ≤ nI i := by simpa only [nI_add, pk_mul, nI_s1, n0_lit] using c1
        rw [nI_leI (by omega) (by omega)] at z
        omega
      refine blk 3 [(.iload_n 2, 0, 0, 0), (.iload_n 3, 0, 0, 0)] [] (by decide +kernel) rfl (pc' := 9) (ls' := [some (.ref 37), some (.int (nI k)), some (.int S), some (.int (nI i))]) (st' := [.int (nI i), .int S]) (M' := M) rfl ⟨trivial, trivial, trivial⟩ ?_
      refine g_callN (index := 28) (s_holds _ S i) rfl (by decide) ⟨ok_X6_holds.1, ok_X6_holds.2.1, ok_X6_holds.2.2.1, ok_X6_holds.2.2.2, by decide +kernel, by decide +kernel⟩ (by decide +kernel) rfl (Nat.le_of_ble_eq_true rfl) (fun r M' h => ?_) rfl
      obtain ⟨hr, hM⟩ := h
      rw [hr, hM]
      show G _ 12 [some (.ref 37), some (.int (nI k)), some (.int S), some (.int (nI i))] [.int (hb S i)] M _
      refine g_if_eq (off := 20) (tgt := 32) (by decide +kernel) (by decide) (fun c2 => ?_) (fun c2 => ?_)
      · refine blk 3 [(.iinc 3 1, 0, 0, (nI 1)), (.goto (-33), 2, 0, 0)] [] (by decide +kernel) rfl (pc' := 2) (ls' := [some (.ref 37), some (.int (nI k)), some (.int S), some (.int (nI i + nI 1))]) (st' := []) (M' := M) rfl ⟨trivial, trivial, trivial⟩ ?_
        refine G.sub (ls' := [some (.ref 37), some (.int (nI k)), some (.int S), some (.int (nI (i + 1)))]) ?_ ⟨rfl, rfl, rfl, congrArg (fun z => some (Value.int z)) (nI_add _ _), trivial⟩
        exact ih (d - 1) (by omega) (i + 1) (by omega) (by omega) (by rw [anyB, ha, Bool.false_or]; simp only [hasF, decide_eq_false_iff_not]; simp_all)
      · refine blk 3 [(.aload_n 0, 0, 0, 0), (.getfield 11, 3, 0, 0), (.iload_n 3, 0, 0, 0), (.aaload, 0, 0, 0), (.getfield 31, 2, 0, 0), (.iload_n 1, 0, 0, 0), (.iaload, 0, 0, 0), (.iconst (-1), 0, 0, (-1))] [i, k] (by decide +kernel) rfl (pc' := 27) (ls' := [some (.ref 37), some (.int (nI k)), some (.int S), some (.int (nI i))]) (st' := [.int (-1), .int (M (61 + i + 5) k)]) (M' := M) rfl ⟨trivial, rfl, trivial, ⟨rfl, (by show _ < 5; omega)⟩, (kd61 (by omega)), trivial, ⟨rfl, (Nat.lt_of_lt_of_eq (by omega : k < 60) (al66 (i := i) (by omega)).symm)⟩, trivial, trivial⟩ ?_
        refine g_icmp_eq (off := 5) (tgt := 32) (by decide +kernel) (by decide) (fun c3 => ?_) (fun c3 => ?_)
        · refine blk 3 [(.iinc 3 1, 0, 0, (nI 1)), (.goto (-33), 2, 0, 0)] [] (by decide +kernel) rfl (pc' := 2) (ls' := [some (.ref 37), some (.int (nI k)), some (.int S), some (.int (nI i + nI 1))]) (st' := []) (M' := M) rfl ⟨trivial, trivial, trivial⟩ ?_
          refine G.sub (ls' := [some (.ref 37), some (.int (nI k)), some (.int S), some (.int (nI (i + 1)))]) ?_ ⟨rfl, rfl, rfl, congrArg (fun z => some (Value.int z)) (nI_add _ _), trivial⟩
          exact ih (d - 1) (by omega) (i + 1) (by omega) (by omega) (by rw [anyB, ha, Bool.false_or]; simp only [hasF, decide_eq_false_iff_not]; simp_all)
        · refine blk 3 [(.iconst 1, 0, 0, (nI 1))] [] (by decide +kernel) rfl (pc' := 31) (ls' := [some (.ref 37), some (.int (nI k)), some (.int S), some (.int (nI i))]) (st' := [.int (nI 1)]) (M' := M) rfl ⟨trivial, trivial⟩ ?_
          refine g_ireturn (by decide +kernel) rfl (by decide) ⟨?_, rfl⟩
          rw [show anyB (hasF M 61 S k) 5 = true from anyB_of (i := i) (by omega) (by simp only [hasF, decide_eq_true_eq]; exact ⟨c2, c3⟩)]; rfl
theorem s_has37 (M : Mem) (S : Int32) {k : Nat} (hk : k < 60) : Spec mX3_hasLetter [.ref 37, .int (nI k), .int S] M (Ret (bI (anyB (hasF M 61 S k) 5)) M) := by
  refine Spec.of (by decide) (by simp [Value.category]) (Nat.le_of_ble_eq_true rfl) ?_
  refine blk 3 [(.iconst 0, 0, 0, (nI 0)), (.istore_n 3, 0, 0, 0)] [] (by decide +kernel) rfl (pc' := 2) (ls' := [some (.ref 37), some (.int (nI k)), some (.int S), some (.int (nI 0))]) (st' := []) (M' := M) rfl ⟨trivial, trivial, trivial⟩ ?_
  exact l_has37 hk _ 0 rfl (by omega) rfl
theorem l_most237 {M : Mem} {k n x : Nat} {A : Int32} {Post : Option Value → Mem → Prop} (hk : k < 60) (hn : n ≤ 5) (hx : x < 4) (hp : G mX3_mostOfOneLetter 5 [some (.ref 37), some (.int (nI k)), some (.int (nI n)), some (.int (if A < psum (cntF M 61 k x) n then psum (cntF M 61 k x) n else A)), some (.int (nI (x + 1))), none, none] [] M Post) : ∀ d i, d = n - i → i ≤ n → G mX3_mostOfOneLetter 17 [some (.ref 37), some (.int (nI k)), some (.int (nI n)), some (.int A), some (.int (nI x)), some (.int (psum (cntF M 61 k x) i)), some (.int (nI i))] [] M Post := by
  intro d
  induction d using Nat.strongRecOn with
  | ind d ih =>
    intro i hd hj
    refine blk 3 [(.iload 6, 0, 0, 0), (.iload_n 2, 0, 0, 0)] [] (by decide +kernel) rfl (pc' := 20) (ls' := [some (.ref 37), some (.int (nI k)), some (.int (nI n)), some (.int A), some (.int (nI x)), some (.int (psum (cntF M 61 k x) i)), some (.int (nI i))]) (st' := [.int (nI n), .int (nI i)]) (M' := M) rfl ⟨trivial, trivial, trivial⟩ ?_
    refine g_icmp_ge (off := 29) (tgt := 49) (by decide +kernel) (by decide) (fun c1 => ?_) (fun c1 => ?_)
    · have nc1 : n ≤ i := (nI_leI (by omega) (by omega)).mp (by simpa only [nI_add, pk_mul, nI_s1, n0_lit] using c1)
      refine blk 3 [(.iload_n 3, 0, 0, 0), (.iload 5, 0, 0, 0)] [] (by decide +kernel) rfl (pc' := 52) (ls' := [some (.ref 37), some (.int (nI k)), some (.int (nI n)), some (.int A), some (.int (nI x)), some (.int (psum (cntF M 61 k x) i)), some (.int (nI i))]) (st' := [.int (psum (cntF M 61 k x) i), .int A]) (M' := M) rfl ⟨trivial, trivial, trivial⟩ ?_
      refine g_mmax (index := 39) (TB_in (by decide +kernel) (by decide +kernel)) (TB_in (by decide +kernel) (by decide +kernel)) (TB_in (by decide +kernel) (by decide +kernel)) (TB_in (by decide +kernel) (by decide +kernel)) (by decide) (Nat.le_of_ble_eq_true rfl) (by decide +kernel) ?_
      refine blk 3 [(.istore_n 3, 0, 0, 0), (.iinc 4 1, 0, 0, (nI 1)), (.goto (-54), 5, 0, 0)] [] (by decide +kernel) rfl (pc' := 5) (ls' := [some (.ref 37), some (.int (nI k)), some (.int (nI n)), some (.int (if A < (psum (cntF M 61 k x) i) then psum (cntF M 61 k x) i else A)), some (.int (nI x + nI 1)), some (.int (psum (cntF M 61 k x) i)), some (.int (nI i))]) (st' := []) (M' := M) rfl ⟨trivial, trivial, trivial, trivial⟩ ?_
      have e : i = n := by omega
      subst e
      refine G.sub (ls' := [some (.ref 37), some (.int (nI k)), some (.int (nI i)), some (.int (if A < psum (cntF M 61 k x) i then psum (cntF M 61 k x) i else A)), some (.int (nI (x + 1))), none, none]) ?_ ⟨rfl, rfl, congrArg (fun z => some (Value.int z)) rfl, congrArg (fun z => some (Value.int z)) rfl, congrArg (fun z => some (Value.int z)) (by simp only [nI_add, nI_s1]), trivial⟩
      exact hp
    · have nc1 : i < n := by
        have z : ¬ nI n ≤ nI i := by simpa only [nI_add, pk_mul, nI_s1, n0_lit] using c1
        rw [nI_leI (by omega) (by omega)] at z
        omega
      refine blk 3 [(.aload_n 0, 0, 0, 0), (.getfield 11, 3, 0, 0), (.iload 6, 0, 0, 0), (.aaload, 0, 0, 0), (.getfield 31, 2, 0, 0), (.iload_n 1, 0, 0, 0), (.iaload, 0, 0, 0), (.iload 4, 0, 0, 0)] [i, k] (by decide +kernel) rfl (pc' := 37) (ls' := [some (.ref 37), some (.int (nI k)), some (.int (nI n)), some (.int A), some (.int (nI x)), some (.int (psum (cntF M 61 k x) i)), some (.int (nI i))]) (st' := [.int (nI x), .int (M (61 + i + 5) k)]) (M' := M) rfl ⟨trivial, rfl, trivial, ⟨rfl, (by show _ < 5; omega)⟩, (kd61 (by omega)), trivial, ⟨rfl, (Nat.lt_of_lt_of_eq (by omega : k < 60) (al66 (i := i) (by omega)).symm)⟩, trivial, trivial⟩ ?_
      refine g_icmp_ne (off := 6) (tgt := 43) (by decide +kernel) (by decide) (fun c2 => ?_) (fun c2 => ?_)
      · refine blk 3 [(.iinc 6 1, 0, 0, (nI 1)), (.goto (-29), 17, 0, 0)] [] (by decide +kernel) rfl (pc' := 17) (ls' := [some (.ref 37), some (.int (nI k)), some (.int (nI n)), some (.int A), some (.int (nI x)), some (.int (psum (cntF M 61 k x) i)), some (.int (nI i + nI 1))]) (st' := []) (M' := M) rfl ⟨trivial, trivial, trivial⟩ ?_
        have e : psum (cntF M 61 k x) (i + 1) = psum (cntF M 61 k x) i := by
          rw [psum, show cntF M 61 k x i = 0 by simp only [cntF]; simp_all]; exact Int32.add_zero _
        refine G.sub (ls' := [some (.ref 37), some (.int (nI k)), some (.int (nI n)), some (.int A), some (.int (nI x)), some (.int (psum (cntF M 61 k x) (i + 1))), some (.int (nI (i + 1)))]) ?_ ⟨rfl, rfl, rfl, rfl, rfl, congrArg (fun z => some (Value.int z)) e.symm, congrArg (fun z => some (Value.int z)) (by simp only [nI_add, nI_s1]), trivial⟩
        exact ih (d - 1) (by omega) (i + 1) (by omega) (by omega)
      · refine blk 3 [(.iinc 5 1, 0, 0, (nI 1)), (.iinc 6 1, 0, 0, (nI 1)), (.goto (-29), 17, 0, 0)] [] (by decide +kernel) rfl (pc' := 17) (ls' := [some (.ref 37), some (.int (nI k)), some (.int (nI n)), some (.int A), some (.int (nI x)), some (.int (psum (cntF M 61 k x) i + nI 1)), some (.int (nI i + nI 1))]) (st' := []) (M' := M) rfl ⟨trivial, trivial, trivial, trivial⟩ ?_
        have e : psum (cntF M 61 k x) (i + 1) = psum (cntF M 61 k x) i + nI 1 := by
          rw [psum, show cntF M 61 k x i = 1 by simp only [cntF]; simp_all]; rfl
        refine G.sub (ls' := [some (.ref 37), some (.int (nI k)), some (.int (nI n)), some (.int A), some (.int (nI x)), some (.int (psum (cntF M 61 k x) (i + 1))), some (.int (nI (i + 1)))]) ?_ ⟨rfl, rfl, rfl, rfl, rfl, congrArg (fun z => some (Value.int z)) e.symm, congrArg (fun z => some (Value.int z)) (by simp only [nI_add, nI_s1]), trivial⟩
        exact ih (d - 1) (by omega) (i + 1) (by omega) (by omega)
theorem l_most37 {M : Mem} {k n : Nat} (hk : k < 60) (hn : n ≤ 5) : ∀ d x, d = 4 - x → x ≤ 4 → G mX3_mostOfOneLetter 5 [some (.ref 37), some (.int (nI k)), some (.int (nI n)), some (.int (pmax (fun x => psum (cntF M 61 k x) n) x)), some (.int (nI x)), none, none] [] M (Ret (pmax (fun x => psum (cntF M 61 k x) n) 4) M) := by
  intro d
  induction d using Nat.strongRecOn with
  | ind d ih =>
    intro x hd hj
    refine blk 3 [(.iload 4, 0, 0, 0), (.iconst 4, 0, 0, (nI 4))] [] (by decide +kernel) rfl (pc' := 8) (ls' := [some (.ref 37), some (.int (nI k)), some (.int (nI n)), some (.int (pmax (fun x => psum (cntF M 61 k x) n) x)), some (.int (nI x)), none, none]) (st' := [.int (nI 4), .int (nI x)]) (M' := M) rfl ⟨trivial, trivial, trivial⟩ ?_
    refine g_icmp_ge (off := 54) (tgt := 62) (by decide +kernel) (by decide) (fun c1 => ?_) (fun c1 => ?_)
    · have nc1 : 4 ≤ x := (nI_leI (by omega) (by omega)).mp (by simpa only [nI_add, pk_mul, nI_s1, n0_lit] using c1)
      refine blk 3 [(.iload_n 3, 0, 0, 0)] [] (by decide +kernel) rfl (pc' := 63) (ls' := [some (.ref 37), some (.int (nI k)), some (.int (nI n)), some (.int (pmax (fun x => psum (cntF M 61 k x) n) x)), some (.int (nI x)), none, none]) (st' := [.int (pmax (fun x => psum (cntF M 61 k x) n) x)]) (M' := M) rfl ⟨trivial, trivial⟩ ?_
      have e : x = 4 := by omega
      subst e
      exact g_ireturn (by decide +kernel) rfl rfl ⟨rfl, rfl⟩
    · have nc1 : x < 4 := by
        have z : ¬ nI 4 ≤ nI x := by simpa only [nI_add, pk_mul, nI_s1, n0_lit] using c1
        rw [nI_leI (by omega) (by omega)] at z
        omega
      refine blk 3 [(.iconst 0, 0, 0, (nI 0)), (.istore 5, 0, 0, 0), (.iconst 0, 0, 0, (nI 0)), (.istore 6, 0, 0, 0)] [] (by decide +kernel) rfl (pc' := 17) (ls' := [some (.ref 37), some (.int (nI k)), some (.int (nI n)), some (.int (pmax (fun x => psum (cntF M 61 k x) n) x)), some (.int (nI x)), some (.int (nI 0)), some (.int (nI 0))]) (st' := []) (M' := M) rfl ⟨trivial, trivial, trivial, trivial, trivial⟩ ?_
      exact l_most237 hk hn (by omega) (ih (d - 1) (by omega) (x + 1) (by omega) (by omega)) _ 0 rfl (by omega)
theorem s_most37 (M : Mem) {k n : Nat} (hk : k < 60) (hn : n ≤ 5) : Spec mX3_mostOfOneLetter [.ref 37, .int (nI k), .int (nI n)] M (Ret (pmax (fun x => psum (cntF M 61 k x) n) 4) M) := by
  refine Spec.of (by decide) (by simp [Value.category]) (Nat.le_of_ble_eq_true rfl) ?_
  refine blk 3 [(.iconst 0, 0, 0, (nI 0)), (.istore_n 3, 0, 0, 0), (.iconst 0, 0, 0, (nI 0)), (.istore 4, 0, 0, 0)] [] (by decide +kernel) rfl (pc' := 5) (ls' := [some (.ref 37), some (.int (nI k)), some (.int (nI n)), some (.int (nI 0)), some (.int (nI 0)), none, none]) (st' := []) (M' := M) rfl ⟨trivial, trivial, trivial, trivial, trivial⟩ ?_
  exact l_most37 hk hn _ 0 rfl (by omega)
theorem l_asp237 {M : Mem} {k n i : Nat} {Post : Option Value → Mem → Prop} (hk : k < 60) (hn : n ≤ 5) (hi : i < n) (hc : ∀ a b, a < 5 → b < k + 1 → okc (M (61 + a + 5) b)) (hp : allB (aspF M 61 k i) i = true → G mX3_allScoresPositive 3 [some (.ref 37), some (.int (nI k)), some (.int (nI n)), some (.ref 2), some (.int (nI (i + 1))), none, none, none] [] M Post) (hf : allB (aspF M 61 k i) i = false → Post (some (.int (nI 0))) M) : ∀ d j, d = i - j → j ≤ i → allB (aspF M 61 k i) j = true → G mX3_allScoresPositive 12 [some (.ref 37), some (.int (nI k)), some (.int (nI n)), some (.ref 2), some (.int (nI i)), some (.int (nI j)), none, none] [] M Post := by
  intro d
  induction d using Nat.strongRecOn with
  | ind d ih =>
    intro j hd hj ha
    refine blk 3 [(.iload 5, 0, 0, 0), (.iload 4, 0, 0, 0)] [] (by decide +kernel) rfl (pc' := 16) (ls' := [some (.ref 37), some (.int (nI k)), some (.int (nI n)), some (.ref 2), some (.int (nI i)), some (.int (nI j)), none, none]) (st' := [.int (nI i), .int (nI j)]) (M' := M) rfl ⟨trivial, trivial, trivial⟩ ?_
    refine g_icmp_ge (off := 66) (tgt := 82) (by decide +kernel) (by decide) (fun c1 => ?_) (fun c1 => ?_)
    · have nc1 : i ≤ j := (nI_leI (by omega) (by omega)).mp (by simpa only [nI_add, pk_mul, nI_s1, n0_lit] using c1)
      refine blk 3 [(.iinc 4 1, 0, 0, (nI 1)), (.goto (-82), 3, 0, 0)] [] (by decide +kernel) rfl (pc' := 3) (ls' := [some (.ref 37), some (.int (nI k)), some (.int (nI n)), some (.ref 2), some (.int (nI i + nI 1)), some (.int (nI j)), none, none]) (st' := []) (M' := M) rfl ⟨trivial, trivial, trivial⟩ ?_
      have e : j = i := by omega
      subst e
      refine G.sub (ls' := [some (.ref 37), some (.int (nI k)), some (.int (nI n)), some (.ref 2), some (.int (nI (j + 1))), none, none, none]) ?_ ⟨rfl, rfl, rfl, rfl, congrArg (fun z => some (Value.int z)) (nI_add _ _), trivial⟩
      exact hp ha
    · have nc1 : j < i := by
        have z : ¬ nI i ≤ nI j := by simpa only [nI_add, pk_mul, nI_s1, n0_lit] using c1
        rw [nI_leI (by omega) (by omega)] at z
        omega
      refine blk 3 [(.aload_n 0, 0, 0, 0), (.getfield 11, 3, 0, 0), (.iload 4, 0, 0, 0), (.aaload, 0, 0, 0), (.getfield 31, 2, 0, 0), (.iload_n 1, 0, 0, 0), (.iaload, 0, 0, 0), (.istore 6, 0, 0, 0), (.aload_n 0, 0, 0, 0), (.getfield 11, 3, 0, 0), (.iload 5, 0, 0, 0), (.aaload, 0, 0, 0), (.getfield 31, 2, 0, 0), (.iload_n 1, 0, 0, 0), (.iaload, 0, 0, 0), (.istore 7, 0, 0, 0), (.iload 6, 0, 0, 0), (.iconst (-1), 0, 0, (-1))] [i, k, j, k] (by decide +kernel) rfl (pc' := 50) (ls' := [some (.ref 37), some (.int (nI k)), some (.int (nI n)), some (.ref 2), some (.int (nI i)), some (.int (nI j)), some (.int (M (61 + i + 5) k)), some (.int (M (61 + j + 5) k))]) (st' := [.int (-1), .int (M (61 + i + 5) k)]) (M' := M) rfl ⟨trivial, rfl, trivial, ⟨rfl, (by show _ < 5; omega)⟩, (kd61 (by omega)), trivial, ⟨rfl, (Nat.lt_of_lt_of_eq (by omega : k < 60) (al66 (i := i) (by omega)).symm)⟩, trivial, trivial, rfl, trivial, ⟨rfl, (by show _ < 5; omega)⟩, (kd61 (by omega)), trivial, ⟨rfl, (Nat.lt_of_lt_of_eq (by omega : k < 60) (al66 (i := j) (by omega)).symm)⟩, trivial, trivial, trivial, trivial⟩ ?_
      refine g_icmp_eq (off := 24) (tgt := 74) (by decide +kernel) (by decide) (fun c2 => ?_) (fun c2 => ?_)
      · refine blk 3 [(.iconst 0, 0, 0, (nI 0))] [] (by decide +kernel) rfl (pc' := 75) (ls' := [some (.ref 37), some (.int (nI k)), some (.int (nI n)), some (.ref 2), some (.int (nI i)), some (.int (nI j)), some (.int (M (61 + i + 5) k)), some (.int (M (61 + j + 5) k))]) (st' := [.int (nI 0)]) (M' := M) rfl ⟨trivial, trivial⟩ ?_
        refine g_ireturn (by decide +kernel) rfl (by decide) (hf ?_)
        refine allB_not (i := j) (by omega) ?_
        simp only [aspF, decide_eq_false_iff_not]; exact fun z => z.1 c2
      · refine blk 3 [(.iload 7, 0, 0, 0), (.iconst (-1), 0, 0, (-1))] [] (by decide +kernel) rfl (pc' := 56) (ls' := [some (.ref 37), some (.int (nI k)), some (.int (nI n)), some (.ref 2), some (.int (nI i)), some (.int (nI j)), some (.int (M (61 + i + 5) k)), some (.int (M (61 + j + 5) k))]) (st' := [.int (-1), .int (M (61 + j + 5) k)]) (M' := M) rfl ⟨trivial, trivial, trivial⟩ ?_
        refine g_icmp_eq (off := 18) (tgt := 74) (by decide +kernel) (by decide) (fun c3 => ?_) (fun c3 => ?_)
        · refine blk 3 [(.iconst 0, 0, 0, (nI 0))] [] (by decide +kernel) rfl (pc' := 75) (ls' := [some (.ref 37), some (.int (nI k)), some (.int (nI n)), some (.ref 2), some (.int (nI i)), some (.int (nI j)), some (.int (M (61 + i + 5) k)), some (.int (M (61 + j + 5) k))]) (st' := [.int (nI 0)]) (M' := M) rfl ⟨trivial, trivial⟩ ?_
          refine g_ireturn (by decide +kernel) rfl (by decide) (hf ?_)
          refine allB_not (i := j) (by omega) ?_
          simp only [aspF, decide_eq_false_iff_not]; exact fun z => z.2.1 c3
        · have ex := okc_cd (hc i k (by omega) (by omega)) c2
          have ey := okc_cd (hc j k (by omega) (by omega)) c3
          refine blk 3 [(.aload_n 3, 0, 0, 0), (.getfield 45, 0, 0, 0), (.iload 6, 0, 0, 0), (.iconst 4, 0, 0, (nI 4)), (.imul, 0, 0, 0), (.iload 7, 0, 0, 0), (.iadd, 0, 0, 0), (.iaload, 0, 0, 0)] [cd (M (61 + i + 5) k) * 4 + cd (M (61 + j + 5) k)] (by decide +kernel) rfl (pc' := 71) (ls' := [some (.ref 37), some (.int (nI k)), some (.int (nI n)), some (.ref 2), some (.int (nI i)), some (.int (nI j)), some (.int (M (61 + i + 5) k)), some (.int (M (61 + j + 5) k))]) (st' := [.int (M 3 (cd (M (61 + i + 5) k) * 4 + cd (M (61 + j + 5) k)))]) (M' := M) rfl ⟨trivial, rfl, trivial, trivial, trivial, trivial, trivial, ⟨(ixx ex.1 ey.1), (by show _ < 16; omega)⟩, trivial⟩ ?_
          refine g_if_gt (off := 5) (tgt := 76) (by decide +kernel) (by decide) (fun c4 => ?_) (fun c4 => ?_)
          · refine blk 3 [(.iinc 5 1, 0, 0, (nI 1)), (.goto (-67), 12, 0, 0)] [] (by decide +kernel) rfl (pc' := 12) (ls' := [some (.ref 37), some (.int (nI k)), some (.int (nI n)), some (.ref 2), some (.int (nI i)), some (.int (nI j + nI 1)), some (.int (M (61 + i + 5) k)), some (.int (M (61 + j + 5) k))]) (st' := []) (M' := M) rfl ⟨trivial, trivial, trivial⟩ ?_
            refine G.sub (ls' := [some (.ref 37), some (.int (nI k)), some (.int (nI n)), some (.ref 2), some (.int (nI i)), some (.int (nI (j + 1))), none, none]) ?_ ⟨rfl, rfl, rfl, rfl, rfl, congrArg (fun z => some (Value.int z)) (by simp only [nI_add, nI_s1]), trivial⟩
            exact ih (d - 1) (by omega) (j + 1) (by omega) (by omega) (by rw [allB, ha, Bool.true_and]; simp only [aspF, decide_eq_true_eq]; exact ⟨c2, c3, c4⟩)
          · refine blk 3 [(.iconst 0, 0, 0, (nI 0))] [] (by decide +kernel) rfl (pc' := 75) (ls' := [some (.ref 37), some (.int (nI k)), some (.int (nI n)), some (.ref 2), some (.int (nI i)), some (.int (nI j)), some (.int (M (61 + i + 5) k)), some (.int (M (61 + j + 5) k))]) (st' := [.int (nI 0)]) (M' := M) rfl ⟨trivial, trivial⟩ ?_
            refine g_ireturn (by decide +kernel) rfl (by decide) (hf ?_)
            refine allB_not (i := j) (by omega) ?_
            simp only [aspF, decide_eq_false_iff_not]; exact fun z => c4 z.2.2
theorem l_asp37 {M : Mem} {k n : Nat} (hk : k < 60) (hn : n ≤ 5) (hc : ∀ a b, a < 5 → b < k + 1 → okc (M (61 + a + 5) b)) : ∀ d i, d = n - i → i ≤ n → allB (fun i => allB (aspF M 61 k i) i) i = true → G mX3_allScoresPositive 3 [some (.ref 37), some (.int (nI k)), some (.int (nI n)), some (.ref 2), some (.int (nI i)), none, none, none] [] M (Ret (bI (allB (fun i => allB (aspF M 61 k i) i) n)) M) := by
  intro d
  induction d using Nat.strongRecOn with
  | ind d ih =>
    intro i hd hj ha
    refine blk 3 [(.iload 4, 0, 0, 0), (.iload_n 2, 0, 0, 0)] [] (by decide +kernel) rfl (pc' := 6) (ls' := [some (.ref 37), some (.int (nI k)), some (.int (nI n)), some (.ref 2), some (.int (nI i)), none, none, none]) (st' := [.int (nI n), .int (nI i)]) (M' := M) rfl ⟨trivial, trivial, trivial⟩ ?_
    refine g_icmp_ge (off := 82) (tgt := 88) (by decide +kernel) (by decide) (fun c1 => ?_) (fun c1 => ?_)
    · have nc1 : n ≤ i := (nI_leI (by omega) (by omega)).mp (by simpa only [nI_add, pk_mul, nI_s1, n0_lit] using c1)
      refine blk 3 [(.iconst 1, 0, 0, (nI 1))] [] (by decide +kernel) rfl (pc' := 89) (ls' := [some (.ref 37), some (.int (nI k)), some (.int (nI n)), some (.ref 2), some (.int (nI i)), none, none, none]) (st' := [.int (nI 1)]) (M' := M) rfl ⟨trivial, trivial⟩ ?_
      have e : i = n := by omega
      subst e
      refine g_ireturn (by decide +kernel) rfl (by decide) ⟨?_, rfl⟩
      rw [ha]; rfl
    · have nc1 : i < n := by
        have z : ¬ nI n ≤ nI i := by simpa only [nI_add, pk_mul, nI_s1, n0_lit] using c1
        rw [nI_leI (by omega) (by omega)] at z
        omega
      refine blk 3 [(.iconst 0, 0, 0, (nI 0)), (.istore 5, 0, 0, 0)] [] (by decide +kernel) rfl (pc' := 12) (ls' := [some (.ref 37), some (.int (nI k)), some (.int (nI n)), some (.ref 2), some (.int (nI i)), some (.int (nI 0)), none, none]) (st' := []) (M' := M) rfl ⟨trivial, trivial, trivial⟩ ?_
      refine l_asp237 hk hn (by omega) hc (fun h => ih (d - 1) (by omega) (i + 1) (by omega) (by omega) (by rw [allB, ha, h]; rfl)) (fun h => ⟨?_, rfl⟩) _ 0 rfl (by omega) rfl
      rw [show allB (fun i => allB (aspF M 61 k i) i) n = false from allB_not (i := i) (by omega) h]; rfl
theorem s_asp37 (M : Mem) {k n : Nat} (hk : k < 60) (hn : n ≤ 5) (hc : ∀ a b, a < 5 → b < k + 1 → okc (M (61 + a + 5) b)) : Spec mX3_allScoresPositive [.ref 37, .int (nI k), .int (nI n), .ref 2] M (Ret (bI (allB (fun i => allB (aspF M 61 k i) i) n)) M) := by
  refine Spec.of (by decide) (by simp [Value.category]) (Nat.le_of_ble_eq_true rfl) ?_
  refine blk 3 [(.iconst 0, 0, 0, (nI 0)), (.istore 4, 0, 0, 0)] [] (by decide +kernel) rfl (pc' := 3) (ls' := [some (.ref 37), some (.int (nI k)), some (.int (nI n)), some (.ref 2), some (.int (nI 0)), none, none, none]) (st' := []) (M' := M) rfl ⟨trivial, trivial, trivial⟩ ?_
  exact l_asp37 hk hn hc _ 0 rfl (by omega) rfl
end
section
/-! sheets: sumOverPairs, spread -/
theorem l_sop235 {M : Mem} {n W i : Nat} {A : Int32} {Post : Option Value → Mem → Prop} (hn : n ≤ 5) (hw : W ≤ 60) (hW : ∀ a, a < n → M (51 + a) 1 = nI W) (hc : ∀ a b, a < n → b < W → okc (M (51 + a + 5) b)) (hi : i < n) (hp : G mX3_sumOverPairs 6 [some (.ref 35), some (.int (nI n)), some (.ref 2), some (.ref 24), some (.int (A + psum (sopF M 51 W i) (n - (i + 1)))), some (.int (nI (i + 1))), none] [] M Post) : ∀ d m, d = n - (i + 1) - m → m ≤ n - (i + 1) → G mX3_sumOverPairs 18 [some (.ref 35), some (.int (nI n)), some (.ref 2), some (.ref 24), some (.int (A + psum (sopF M 51 W i) m)), some (.int (nI i)), some (.int (nI (i + 1 + m)))] [] M Post := by
  intro d
  induction d using Nat.strongRecOn with
  | ind d ih =>
    intro m hd hj
    refine blk 3 [(.iload 6, 0, 0, 0), (.iload_n 1, 0, 0, 0)] [] (by decide +kernel) rfl (pc' := 21) (ls' := [some (.ref 35), some (.int (nI n)), some (.ref 2), some (.ref 24), some (.int (A + psum (sopF M 51 W i) m)), some (.int (nI i)), some (.int (nI (i + 1 + m)))]) (st' := [.int (nI n), .int (nI (i + 1 + m))]) (M' := M) rfl ⟨trivial, trivial, trivial⟩ ?_
    refine g_icmp_ge (off := 42) (tgt := 63) (by decide +kernel) (by decide) (fun c1 => ?_) (fun c1 => ?_)
    · have nc1 : n ≤ (i + 1 + m) := (nI_leI (by omega) (by omega)).mp (by simpa only [nI_add, pk_mul, nI_s1, n0_lit] using c1)
      refine blk 3 [(.iinc 5 1, 0, 0, (nI 1)), (.goto (-60), 6, 0, 0)] [] (by decide +kernel) rfl (pc' := 6) (ls' := [some (.ref 35), some (.int (nI n)), some (.ref 2), some (.ref 24), some (.int (A + psum (sopF M 51 W i) m)), some (.int (nI i + nI 1)), some (.int (nI (i + 1 + m)))]) (st' := []) (M' := M) rfl ⟨trivial, trivial, trivial⟩ ?_
      have e : m = n - (i + 1) := by omega
      subst e
      refine G.sub (ls' := [some (.ref 35), some (.int (nI n)), some (.ref 2), some (.ref 24), some (.int (A + psum (sopF M 51 W i) (n - (i + 1)))), some (.int (nI (i + 1))), none]) ?_ ⟨rfl, rfl, rfl, rfl, congrArg (fun z => some (Value.int z)) rfl, congrArg (fun z => some (Value.int z)) (by simp only [nI_add, nI_s1]), trivial⟩
      exact hp
    · have nc1 : (i + 1 + m) < n := by
        have z : ¬ nI n ≤ nI (i + 1 + m) := by simpa only [nI_add, pk_mul, nI_s1, n0_lit] using c1
        rw [nI_leI (by omega) (by omega)] at z
        omega
      refine blk 3 [(.iload 4, 0, 0, 0), (.aload_n 3, 0, 0, 0), (.iload 5, 0, 0, 0), (.iaload, 0, 0, 0), (.aload_n 3, 0, 0, 0), (.iload 6, 0, 0, 0), (.iaload, 0, 0, 0), (.imul, 0, 0, 0), (.aload_n 0, 0, 0, 0), (.getfield 11, 3, 0, 0), (.iload 5, 0, 0, 0), (.aaload, 0, 0, 0), (.aload_n 0, 0, 0, 0), (.getfield 11, 3, 0, 0), (.iload 6, 0, 0, 0), (.aaload, 0, 0, 0), (.aload_n 2, 0, 0, 0)] [i, i + 1 + m, i, i + 1 + m] (by decide +kernel) rfl (pc' := 50) (ls' := [some (.ref 35), some (.int (nI n)), some (.ref 2), some (.ref 24), some (.int (A + psum (sopF M 51 W i) m)), some (.int (nI i)), some (.int (nI (i + 1 + m)))]) (st' := [.ref 2, .ref (51 + (i + 1 + m)), .ref (51 + i), .int ((M 24 i) * (M 24 (i + 1 + m))), .int (A + psum (sopF M 51 W i) m)]) (M' := M) rfl ⟨trivial, trivial, trivial, ⟨rfl, (by show _ < 5; omega)⟩, trivial, trivial, ⟨rfl, (by show _ < 5; omega)⟩, trivial, trivial, rfl, trivial, ⟨rfl, (by show _ < 5; omega)⟩, trivial, rfl, trivial, ⟨rfl, (by show _ < 5; omega)⟩, trivial, trivial⟩ ?_
      refine g_callV (s_beside M (t := 51 + i) (u := 51 + (i + 1 + m)) (w := W) (kd51 (by omega)) (kd51 (by omega)) (hW i (by omega)) (by rw [al56 (by omega)]; exact hw) (by rw [al56 (by omega)]; exact hw) (fun k hk => hc i k (by omega) hk) (fun k hk => hc _ k (by omega) hk)) ok_X3_sumOverPairs_X2_scoreBeside (by decide +kernel) rfl (c := 2) (kd51 (by omega)) (by decide) rfl (Nat.le_of_ble_eq_true rfl) (fun r M' h => ?_) rfl
      obtain ⟨hr, hM⟩ := h
      rw [hr, hM]
      show G _ 53 [some (.ref 35), some (.int (nI n)), some (.ref 2), some (.ref 24), some (.int (A + psum (sopF M 51 W i) m)), some (.int (nI i)), some (.int (nI (i + 1 + m)))] [.int ((sbF (M 3) (M 2 1) (M 2 2) (M (51 + i + 5)) (M (51 + (i + 1 + m) + 5)) W).1), .int ((M 24 i) * (M 24 (i + 1 + m))), .int (A + psum (sopF M 51 W i) m)] M _
      refine blk 3 [(.imul, 0, 0, 0), (.iadd, 0, 0, 0), (.istore 4, 0, 0, 0), (.iinc 6 1, 0, 0, (nI 1)), (.goto (-42), 18, 0, 0)] [] (by decide +kernel) rfl (pc' := 18) (ls' := [some (.ref 35), some (.int (nI n)), some (.ref 2), some (.ref 24), some (.int ((A + psum (sopF M 51 W i) m) + (((M 24 i) * (M 24 (i + 1 + m))) * ((sbF (M 3) (M 2 1) (M 2 2) (M (51 + i + 5)) (M (51 + (i + 1 + m) + 5)) W).1)))), some (.int (nI i)), some (.int (nI (i + 1 + m) + nI 1))]) (st' := []) (M' := M) rfl ⟨trivial, trivial, trivial, trivial, trivial, trivial⟩ ?_
      refine G.sub (ls' := [some (.ref 35), some (.int (nI n)), some (.ref 2), some (.ref 24), some (.int (A + psum (sopF M 51 W i) (m + 1))), some (.int (nI i)), some (.int (nI (i + 1 + (m + 1))))]) ?_ ⟨rfl, rfl, rfl, rfl, congrArg (fun z => some (Value.int z)) (by rw [psum, ← Int32.add_assoc]; rfl), rfl, congrArg (fun z => some (Value.int z)) (by rw [nI_add]; congr 1), trivial⟩
      exact ih (d - 1) (by omega) (m + 1) (by omega) (by omega)
theorem l_sop35 {M : Mem} {n W : Nat} (hn : n ≤ 5) (hw : W ≤ 60) (hW : ∀ a, a < n → M (51 + a) 1 = nI W) (hc : ∀ a b, a < n → b < W → okc (M (51 + a + 5) b)) : ∀ d i, d = n - i → i ≤ n → G mX3_sumOverPairs 6 [some (.ref 35), some (.int (nI n)), some (.ref 2), some (.ref 24), some (.int (psum (fun i => psum (sopF M 51 W i) (n - (i + 1))) i)), some (.int (nI i)), none] [] M (Ret (psum (fun i => psum (sopF M 51 W i) (n - (i + 1))) n) M) := by
  intro d
  induction d using Nat.strongRecOn with
  | ind d ih =>
    intro i hd hj
    refine blk 3 [(.iload 5, 0, 0, 0), (.iload_n 1, 0, 0, 0)] [] (by decide +kernel) rfl (pc' := 9) (ls' := [some (.ref 35), some (.int (nI n)), some (.ref 2), some (.ref 24), some (.int (psum (fun i => psum (sopF M 51 W i) (n - (i + 1))) i)), some (.int (nI i)), none]) (st' := [.int (nI n), .int (nI i)]) (M' := M) rfl ⟨trivial, trivial, trivial⟩ ?_
    refine g_icmp_ge (off := 60) (tgt := 69) (by decide +kernel) (by decide) (fun c1 => ?_) (fun c1 => ?_)
    · have nc1 : n ≤ i := (nI_leI (by omega) (by omega)).mp (by simpa only [nI_add, pk_mul, nI_s1, n0_lit] using c1)
      refine blk 3 [(.iload 4, 0, 0, 0)] [] (by decide +kernel) rfl (pc' := 71) (ls' := [some (.ref 35), some (.int (nI n)), some (.ref 2), some (.ref 24), some (.int (psum (fun i => psum (sopF M 51 W i) (n - (i + 1))) i)), some (.int (nI i)), none]) (st' := [.int (psum (fun i => psum (sopF M 51 W i) (n - (i + 1))) i)]) (M' := M) rfl ⟨trivial, trivial⟩ ?_
      have e : i = n := by omega
      subst e
      exact g_ireturn (by decide +kernel) rfl rfl ⟨rfl, rfl⟩
    · have nc1 : i < n := by
        have z : ¬ nI n ≤ nI i := by simpa only [nI_add, pk_mul, nI_s1, n0_lit] using c1
        rw [nI_leI (by omega) (by omega)] at z
        omega
      refine blk 3 [(.iload 5, 0, 0, 0), (.iconst 1, 0, 0, (nI 1)), (.iadd, 0, 0, 0), (.istore 6, 0, 0, 0)] [] (by decide +kernel) rfl (pc' := 18) (ls' := [some (.ref 35), some (.int (nI n)), some (.ref 2), some (.ref 24), some (.int (psum (fun i => psum (sopF M 51 W i) (n - (i + 1))) i)), some (.int (nI i)), some (.int ((nI i) + (nI 1)))]) (st' := []) (M' := M) rfl ⟨trivial, trivial, trivial, trivial, trivial⟩ ?_
      refine G.sub (ls' := [some (.ref 35), some (.int (nI n)), some (.ref 2), some (.ref 24), some (.int (psum (fun i => psum (sopF M 51 W i) (n - (i + 1))) i + psum (sopF M 51 W i) 0)), some (.int (nI i)), some (.int (nI (i + 1 + 0)))]) ?_ ⟨rfl, rfl, rfl, rfl, congrArg (fun z => some (Value.int z)) (Int32.add_zero _).symm, rfl, congrArg (fun z => some (Value.int z)) (nI_add _ _), trivial⟩
      exact l_sop235 hn hw hW hc (by omega) (ih (d - 1) (by omega) (i + 1) (by omega) (by omega)) _ 0 rfl (by omega)
theorem s_sop35 (M : Mem) {n W : Nat} (hn : n ≤ 5) (hw : W ≤ 60) (hW : ∀ a, a < n → M (51 + a) 1 = nI W) (hc : ∀ a b, a < n → b < W → okc (M (51 + a + 5) b)) : Spec mX3_sumOverPairs [.ref 35, .int (nI n), .ref 2, .ref 24] M (Ret (psum (fun i => psum (sopF M 51 W i) (n - (i + 1))) n) M) := by
  refine Spec.of (by decide) (by simp [Value.category]) (Nat.le_of_ble_eq_true rfl) ?_
  refine blk 3 [(.iconst 0, 0, 0, (nI 0)), (.istore 4, 0, 0, 0), (.iconst 0, 0, 0, (nI 0)), (.istore 5, 0, 0, 0)] [] (by decide +kernel) rfl (pc' := 6) (ls' := [some (.ref 35), some (.int (nI n)), some (.ref 2), some (.ref 24), some (.int (nI 0)), some (.int (nI 0)), none]) (st' := []) (M' := M) rfl ⟨trivial, trivial, trivial, trivial, trivial⟩ ?_
  exact l_sop35 hn hw hW hc _ 0 rfl (by omega)
/-- what spreading a group's rows does: the rows of the words in S, in the first m of a sheet -/
def sprJ1 (M N : Mem) (B n : Nat) (S g : Int32) (m : Nat) : Prop := ∀ a, a < m → ¬ hb S a = 0 → N (B + a) 1 = nI n ∧ ∀ j, j < n → N (B + a + 5) j = if M 15 j = g then -1 else M (B + a + 5) (ncnt (M 15) g j)
def sprJ2 (M N : Mem) (B : Nat) (S : Int32) (m : Nat) : Prop := ∀ z, (∀ a, a < m → ¬ hb S a = 0 → z ≠ B + a ∧ z ≠ B + a + 5) → N z = M z
theorem l_sspread35 {M0 : Mem} {n : Nat} {S g : Int32} (hn : n ≤ 60) (hw : ∀ a, a < 5 → ¬ hb S a = 0 → M0 (51 + a) 1 = nI (ncnt (M0 15) g n)) : ∀ d i M, d = 5 - i → i ≤ 5 → sprJ1 M0 M 51 n S g i → sprJ2 M0 M 51 S i → G mX3_spread 3 [some (.ref 35), some (.int S), some (.ref 15), some (.int (nI n)), some (.int g), some (.int (nI i))] [] M (fun r N => r = none ∧ sprJ1 M0 N 51 n S g 5 ∧ sprJ2 M0 N 51 S 5) := by
  intro d
  induction d using Nat.strongRecOn with
  | ind d ih =>
    intro i M hd hj j1 j2
    refine blk 3 [(.iload 5, 0, 0, 0), (.iconst 5, 0, 0, (nI 5))] [] (by decide +kernel) rfl (pc' := 6) (ls' := [some (.ref 35), some (.int S), some (.ref 15), some (.int (nI n)), some (.int g), some (.int (nI i))]) (st' := [.int (nI 5), .int (nI i)]) (M' := M) rfl ⟨trivial, trivial, trivial⟩ ?_
    refine g_icmp_ge (off := 32) (tgt := 38) (by decide +kernel) (by decide) (fun c1 => ?_) (fun c1 => ?_)
    · have nc1 : 5 ≤ i := (nI_leI (by omega) (by omega)).mp (by simpa only [nI_add, pk_mul, nI_s1, n0_lit] using c1)
      have e : i = 5 := by omega
      subst e
      exact g_return (by decide +kernel) rfl ⟨rfl, j1, j2⟩
    · have nc1 : i < 5 := by
        have z : ¬ nI 5 ≤ nI i := by simpa only [nI_add, pk_mul, nI_s1, n0_lit] using c1
        rw [nI_leI (by omega) (by omega)] at z
        omega
      refine blk 3 [(.iload_n 1, 0, 0, 0), (.iload 5, 0, 0, 0)] [] (by decide +kernel) rfl (pc' := 12) (ls' := [some (.ref 35), some (.int S), some (.ref 15), some (.int (nI n)), some (.int g), some (.int (nI i))]) (st' := [.int (nI i), .int S]) (M' := M) rfl ⟨trivial, trivial, trivial⟩ ?_
      refine g_callN (index := 28) (s_holds _ S i) rfl (by decide) ⟨ok_X6_holds.1, ok_X6_holds.2.1, ok_X6_holds.2.2.1, ok_X6_holds.2.2.2, by decide +kernel, by decide +kernel⟩ (by decide +kernel) rfl (Nat.le_of_ble_eq_true rfl) (fun r M' h => ?_) rfl
      obtain ⟨hr, hM⟩ := h
      rw [hr, hM]
      show G _ 15 [some (.ref 35), some (.int S), some (.ref 15), some (.int (nI n)), some (.int g), some (.int (nI i))] [.int (hb S i)] M _
      refine g_if_eq (off := 17) (tgt := 32) (by decide +kernel) (by decide) (fun c2 => ?_) (fun c2 => ?_)
      · refine blk 3 [(.iinc 5 1, 0, 0, (nI 1)), (.goto (-32), 3, 0, 0)] [] (by decide +kernel) rfl (pc' := 3) (ls' := [some (.ref 35), some (.int S), some (.ref 15), some (.int (nI n)), some (.int g), some (.int (nI i + nI 1))]) (st' := []) (M' := M) rfl ⟨trivial, trivial, trivial⟩ ?_
        refine G.sub (ls' := [some (.ref 35), some (.int S), some (.ref 15), some (.int (nI n)), some (.int g), some (.int (nI (i + 1)))]) ?_ ⟨rfl, rfl, rfl, rfl, rfl, congrArg (fun z => some (Value.int z)) (by simp only [nI_add, nI_s1]), trivial⟩
        refine ih (d - 1) (by omega) (i + 1) M (by omega) (by omega) (fun a h1 h2 => ?_) (fun z hz => j2 z (fun a h1 h2 => hz a (by omega) h2))
        by_cases e : a = i
        · subst e; exact absurd c2 h2
        · exact j1 a (by omega) h2
      · refine blk 3 [(.aload_n 0, 0, 0, 0), (.getfield 11, 3, 0, 0), (.iload 5, 0, 0, 0), (.aaload, 0, 0, 0), (.aload_n 2, 0, 0, 0), (.iload_n 3, 0, 0, 0), (.iload 4, 0, 0, 0)] [i] (by decide +kernel) rfl (pc' := 29) (ls' := [some (.ref 35), some (.int S), some (.ref 15), some (.int (nI n)), some (.int g), some (.int (nI i))]) (st' := [.int g, .int (nI n), .ref 15, .ref (51 + i)]) (M' := M) rfl ⟨trivial, rfl, trivial, ⟨rfl, (by show _ < 5; omega)⟩, trivial, trivial, trivial, trivial⟩ ?_
        have e15 : M 15 = M0 15 := j2 15 (fun a _ _ => by omega)
        have eB : M (51 + i) = M0 (51 + i) := j2 _ (fun a _ _ => by omega)
        have eC : M (51 + i + 5) = M0 (51 + i + 5) := j2 _ (fun a _ _ => by omega)
        refine g_callV (s_rspread M (t := 51 + i) (n := n) (w := ncnt (M0 15) g n) (g := g) (kd51 (by omega)) (by rw [eB]; exact hw i (by omega) c2) (by rw [e15]) hn (by rw [al56 (by omega)]; omega) (by omega) (by omega)) ok_X3_spread_X2_spread (by decide +kernel) rfl (c := 2) (kd51 (by omega)) (by decide) rfl (Nat.le_of_ble_eq_true rfl) (fun r N h => ?_) rfl
        obtain ⟨hr, q1, q2, q3⟩ := h
        rw [hr]
        rw [e15, eC] at q2
        show G _ 32 [some (.ref 35), some (.int S), some (.ref 15), some (.int (nI n)), some (.int g), some (.int (nI i))] [] N _
        refine blk 3 [(.iinc 5 1, 0, 0, (nI 1)), (.goto (-32), 3, 0, 0)] [] (by decide +kernel) rfl (pc' := 3) (ls' := [some (.ref 35), some (.int S), some (.ref 15), some (.int (nI n)), some (.int g), some (.int (nI i + nI 1))]) (st' := []) (M' := N) rfl ⟨trivial, trivial, trivial⟩ ?_
        refine G.sub (ls' := [some (.ref 35), some (.int S), some (.ref 15), some (.int (nI n)), some (.int g), some (.int (nI (i + 1)))]) ?_ ⟨rfl, rfl, rfl, rfl, rfl, congrArg (fun z => some (Value.int z)) (by simp only [nI_add, nI_s1]), trivial⟩
        refine ih (d - 1) (by omega) (i + 1) N (by omega) (by omega) (fun a h1 h2 => ?_) (fun z hz => ?_)
        · by_cases e : a = i
          · subst e; exact ⟨q1, q2⟩
          · rw [q3 (51 + a) (by omega) (by omega), q3 (51 + a + 5) (by omega) (by omega)]; exact j1 a (by omega) h2
        · rw [q3 z (hz i (by omega) c2).1 (hz i (by omega) c2).2]; exact j2 z (fun a h1 h2 => hz a (by omega) h2)
theorem s_sspread35 (M : Mem) {n : Nat} {S g : Int32} (hn : n ≤ 60) (hw : ∀ a, a < 5 → ¬ hb S a = 0 → M (51 + a) 1 = nI (ncnt (M 15) g n)) : Spec mX3_spread [.ref 35, .int S, .ref 15, .int (nI n), .int g] M (fun r N => r = none ∧ sprJ1 M N 51 n S g 5 ∧ sprJ2 M N 51 S 5) := by
  refine Spec.of (by decide) (by simp [Value.category]) (Nat.le_of_ble_eq_true rfl) ?_
  refine blk 3 [(.iconst 0, 0, 0, (nI 0)), (.istore 5, 0, 0, 0)] [] (by decide +kernel) rfl (pc' := 3) (ls' := [some (.ref 35), some (.int S), some (.ref 15), some (.int (nI n)), some (.int g), some (.int (nI 0))]) (st' := []) (M' := M) rfl ⟨trivial, trivial, trivial⟩ ?_
  exact l_sspread35 hn hw _ 0 M rfl (by omega) (fun a h => absurd h (by omega)) (fun z _ => rfl)
theorem l_sop237 {M : Mem} {n W i : Nat} {A : Int32} {Post : Option Value → Mem → Prop} (hn : n ≤ 5) (hw : W ≤ 60) (hW : ∀ a, a < n → M (61 + a) 1 = nI W) (hc : ∀ a b, a < n → b < W → okc (M (61 + a + 5) b)) (hi : i < n) (hp : G mX3_sumOverPairs 6 [some (.ref 37), some (.int (nI n)), some (.ref 2), some (.ref 24), some (.int (A + psum (sopF M 61 W i) (n - (i + 1)))), some (.int (nI (i + 1))), none] [] M Post) : ∀ d m, d = n - (i + 1) - m → m ≤ n - (i + 1) → G mX3_sumOverPairs 18 [some (.ref 37), some (.int (nI n)), some (.ref 2), some (.ref 24), some (.int (A + psum (sopF M 61 W i) m)), some (.int (nI i)), some (.int (nI (i + 1 + m)))] [] M Post := by
  intro d
  induction d using Nat.strongRecOn with
  | ind d ih =>
    intro m hd hj
    refine blk 3 [(.iload 6, 0, 0, 0), (.iload_n 1, 0, 0, 0)] [] (by decide +kernel) rfl (pc' := 21) (ls' := [some (.ref 37), some (.int (nI n)), some (.ref 2), some (.ref 24), some (.int (A + psum (sopF M 61 W i) m)), some (.int (nI i)), some (.int (nI (i + 1 + m)))]) (st' := [.int (nI n), .int (nI (i + 1 + m))]) (M' := M) rfl ⟨trivial, trivial, trivial⟩ ?_
    refine g_icmp_ge (off := 42) (tgt := 63) (by decide +kernel) (by decide) (fun c1 => ?_) (fun c1 => ?_)
    · have nc1 : n ≤ (i + 1 + m) := (nI_leI (by omega) (by omega)).mp (by simpa only [nI_add, pk_mul, nI_s1, n0_lit] using c1)
      refine blk 3 [(.iinc 5 1, 0, 0, (nI 1)), (.goto (-60), 6, 0, 0)] [] (by decide +kernel) rfl (pc' := 6) (ls' := [some (.ref 37), some (.int (nI n)), some (.ref 2), some (.ref 24), some (.int (A + psum (sopF M 61 W i) m)), some (.int (nI i + nI 1)), some (.int (nI (i + 1 + m)))]) (st' := []) (M' := M) rfl ⟨trivial, trivial, trivial⟩ ?_
      have e : m = n - (i + 1) := by omega
      subst e
      refine G.sub (ls' := [some (.ref 37), some (.int (nI n)), some (.ref 2), some (.ref 24), some (.int (A + psum (sopF M 61 W i) (n - (i + 1)))), some (.int (nI (i + 1))), none]) ?_ ⟨rfl, rfl, rfl, rfl, congrArg (fun z => some (Value.int z)) rfl, congrArg (fun z => some (Value.int z)) (by simp only [nI_add, nI_s1]), trivial⟩
      exact hp
    · have nc1 : (i + 1 + m) < n := by
        have z : ¬ nI n ≤ nI (i + 1 + m) := by simpa only [nI_add, pk_mul, nI_s1, n0_lit] using c1
        rw [nI_leI (by omega) (by omega)] at z
        omega
      refine blk 3 [(.iload 4, 0, 0, 0), (.aload_n 3, 0, 0, 0), (.iload 5, 0, 0, 0), (.iaload, 0, 0, 0), (.aload_n 3, 0, 0, 0), (.iload 6, 0, 0, 0), (.iaload, 0, 0, 0), (.imul, 0, 0, 0), (.aload_n 0, 0, 0, 0), (.getfield 11, 3, 0, 0), (.iload 5, 0, 0, 0), (.aaload, 0, 0, 0), (.aload_n 0, 0, 0, 0), (.getfield 11, 3, 0, 0), (.iload 6, 0, 0, 0), (.aaload, 0, 0, 0), (.aload_n 2, 0, 0, 0)] [i, i + 1 + m, i, i + 1 + m] (by decide +kernel) rfl (pc' := 50) (ls' := [some (.ref 37), some (.int (nI n)), some (.ref 2), some (.ref 24), some (.int (A + psum (sopF M 61 W i) m)), some (.int (nI i)), some (.int (nI (i + 1 + m)))]) (st' := [.ref 2, .ref (61 + (i + 1 + m)), .ref (61 + i), .int ((M 24 i) * (M 24 (i + 1 + m))), .int (A + psum (sopF M 61 W i) m)]) (M' := M) rfl ⟨trivial, trivial, trivial, ⟨rfl, (by show _ < 5; omega)⟩, trivial, trivial, ⟨rfl, (by show _ < 5; omega)⟩, trivial, trivial, rfl, trivial, ⟨rfl, (by show _ < 5; omega)⟩, trivial, rfl, trivial, ⟨rfl, (by show _ < 5; omega)⟩, trivial, trivial⟩ ?_
      refine g_callV (s_beside M (t := 61 + i) (u := 61 + (i + 1 + m)) (w := W) (kd61 (by omega)) (kd61 (by omega)) (hW i (by omega)) (by rw [al66 (by omega)]; exact hw) (by rw [al66 (by omega)]; exact hw) (fun k hk => hc i k (by omega) hk) (fun k hk => hc _ k (by omega) hk)) ok_X3_sumOverPairs_X2_scoreBeside (by decide +kernel) rfl (c := 2) (kd61 (by omega)) (by decide) rfl (Nat.le_of_ble_eq_true rfl) (fun r M' h => ?_) rfl
      obtain ⟨hr, hM⟩ := h
      rw [hr, hM]
      show G _ 53 [some (.ref 37), some (.int (nI n)), some (.ref 2), some (.ref 24), some (.int (A + psum (sopF M 61 W i) m)), some (.int (nI i)), some (.int (nI (i + 1 + m)))] [.int ((sbF (M 3) (M 2 1) (M 2 2) (M (61 + i + 5)) (M (61 + (i + 1 + m) + 5)) W).1), .int ((M 24 i) * (M 24 (i + 1 + m))), .int (A + psum (sopF M 61 W i) m)] M _
      refine blk 3 [(.imul, 0, 0, 0), (.iadd, 0, 0, 0), (.istore 4, 0, 0, 0), (.iinc 6 1, 0, 0, (nI 1)), (.goto (-42), 18, 0, 0)] [] (by decide +kernel) rfl (pc' := 18) (ls' := [some (.ref 37), some (.int (nI n)), some (.ref 2), some (.ref 24), some (.int ((A + psum (sopF M 61 W i) m) + (((M 24 i) * (M 24 (i + 1 + m))) * ((sbF (M 3) (M 2 1) (M 2 2) (M (61 + i + 5)) (M (61 + (i + 1 + m) + 5)) W).1)))), some (.int (nI i)), some (.int (nI (i + 1 + m) + nI 1))]) (st' := []) (M' := M) rfl ⟨trivial, trivial, trivial, trivial, trivial, trivial⟩ ?_
      refine G.sub (ls' := [some (.ref 37), some (.int (nI n)), some (.ref 2), some (.ref 24), some (.int (A + psum (sopF M 61 W i) (m + 1))), some (.int (nI i)), some (.int (nI (i + 1 + (m + 1))))]) ?_ ⟨rfl, rfl, rfl, rfl, congrArg (fun z => some (Value.int z)) (by rw [psum, ← Int32.add_assoc]; rfl), rfl, congrArg (fun z => some (Value.int z)) (by rw [nI_add]; congr 1), trivial⟩
      exact ih (d - 1) (by omega) (m + 1) (by omega) (by omega)
theorem l_sop37 {M : Mem} {n W : Nat} (hn : n ≤ 5) (hw : W ≤ 60) (hW : ∀ a, a < n → M (61 + a) 1 = nI W) (hc : ∀ a b, a < n → b < W → okc (M (61 + a + 5) b)) : ∀ d i, d = n - i → i ≤ n → G mX3_sumOverPairs 6 [some (.ref 37), some (.int (nI n)), some (.ref 2), some (.ref 24), some (.int (psum (fun i => psum (sopF M 61 W i) (n - (i + 1))) i)), some (.int (nI i)), none] [] M (Ret (psum (fun i => psum (sopF M 61 W i) (n - (i + 1))) n) M) := by
  intro d
  induction d using Nat.strongRecOn with
  | ind d ih =>
    intro i hd hj
    refine blk 3 [(.iload 5, 0, 0, 0), (.iload_n 1, 0, 0, 0)] [] (by decide +kernel) rfl (pc' := 9) (ls' := [some (.ref 37), some (.int (nI n)), some (.ref 2), some (.ref 24), some (.int (psum (fun i => psum (sopF M 61 W i) (n - (i + 1))) i)), some (.int (nI i)), none]) (st' := [.int (nI n), .int (nI i)]) (M' := M) rfl ⟨trivial, trivial, trivial⟩ ?_
    refine g_icmp_ge (off := 60) (tgt := 69) (by decide +kernel) (by decide) (fun c1 => ?_) (fun c1 => ?_)
    · have nc1 : n ≤ i := (nI_leI (by omega) (by omega)).mp (by simpa only [nI_add, pk_mul, nI_s1, n0_lit] using c1)
      refine blk 3 [(.iload 4, 0, 0, 0)] [] (by decide +kernel) rfl (pc' := 71) (ls' := [some (.ref 37), some (.int (nI n)), some (.ref 2), some (.ref 24), some (.int (psum (fun i => psum (sopF M 61 W i) (n - (i + 1))) i)), some (.int (nI i)), none]) (st' := [.int (psum (fun i => psum (sopF M 61 W i) (n - (i + 1))) i)]) (M' := M) rfl ⟨trivial, trivial⟩ ?_
      have e : i = n := by omega
      subst e
      exact g_ireturn (by decide +kernel) rfl rfl ⟨rfl, rfl⟩
    · have nc1 : i < n := by
        have z : ¬ nI n ≤ nI i := by simpa only [nI_add, pk_mul, nI_s1, n0_lit] using c1
        rw [nI_leI (by omega) (by omega)] at z
        omega
      refine blk 3 [(.iload 5, 0, 0, 0), (.iconst 1, 0, 0, (nI 1)), (.iadd, 0, 0, 0), (.istore 6, 0, 0, 0)] [] (by decide +kernel) rfl (pc' := 18) (ls' := [some (.ref 37), some (.int (nI n)), some (.ref 2), some (.ref 24), some (.int (psum (fun i => psum (sopF M 61 W i) (n - (i + 1))) i)), some (.int (nI i)), some (.int ((nI i) + (nI 1)))]) (st' := []) (M' := M) rfl ⟨trivial, trivial, trivial, trivial, trivial⟩ ?_
      refine G.sub (ls' := [some (.ref 37), some (.int (nI n)), some (.ref 2), some (.ref 24), some (.int (psum (fun i => psum (sopF M 61 W i) (n - (i + 1))) i + psum (sopF M 61 W i) 0)), some (.int (nI i)), some (.int (nI (i + 1 + 0)))]) ?_ ⟨rfl, rfl, rfl, rfl, congrArg (fun z => some (Value.int z)) (Int32.add_zero _).symm, rfl, congrArg (fun z => some (Value.int z)) (nI_add _ _), trivial⟩
      exact l_sop237 hn hw hW hc (by omega) (ih (d - 1) (by omega) (i + 1) (by omega) (by omega)) _ 0 rfl (by omega)
theorem s_sop37 (M : Mem) {n W : Nat} (hn : n ≤ 5) (hw : W ≤ 60) (hW : ∀ a, a < n → M (61 + a) 1 = nI W) (hc : ∀ a b, a < n → b < W → okc (M (61 + a + 5) b)) : Spec mX3_sumOverPairs [.ref 37, .int (nI n), .ref 2, .ref 24] M (Ret (psum (fun i => psum (sopF M 61 W i) (n - (i + 1))) n) M) := by
  refine Spec.of (by decide) (by simp [Value.category]) (Nat.le_of_ble_eq_true rfl) ?_
  refine blk 3 [(.iconst 0, 0, 0, (nI 0)), (.istore 4, 0, 0, 0), (.iconst 0, 0, 0, (nI 0)), (.istore 5, 0, 0, 0)] [] (by decide +kernel) rfl (pc' := 6) (ls' := [some (.ref 37), some (.int (nI n)), some (.ref 2), some (.ref 24), some (.int (nI 0)), some (.int (nI 0)), none]) (st' := []) (M' := M) rfl ⟨trivial, trivial, trivial, trivial, trivial⟩ ?_
  exact l_sop37 hn hw hW hc _ 0 rfl (by omega)
theorem l_sspread37 {M0 : Mem} {n : Nat} {S g : Int32} (hn : n ≤ 60) (hw : ∀ a, a < 5 → ¬ hb S a = 0 → M0 (61 + a) 1 = nI (ncnt (M0 15) g n)) : ∀ d i M, d = 5 - i → i ≤ 5 → sprJ1 M0 M 61 n S g i → sprJ2 M0 M 61 S i → G mX3_spread 3 [some (.ref 37), some (.int S), some (.ref 15), some (.int (nI n)), some (.int g), some (.int (nI i))] [] M (fun r N => r = none ∧ sprJ1 M0 N 61 n S g 5 ∧ sprJ2 M0 N 61 S 5) := by
  intro d
  induction d using Nat.strongRecOn with
  | ind d ih =>
    intro i M hd hj j1 j2
    refine blk 3 [(.iload 5, 0, 0, 0), (.iconst 5, 0, 0, (nI 5))] [] (by decide +kernel) rfl (pc' := 6) (ls' := [some (.ref 37), some (.int S), some (.ref 15), some (.int (nI n)), some (.int g), some (.int (nI i))]) (st' := [.int (nI 5), .int (nI i)]) (M' := M) rfl ⟨trivial, trivial, trivial⟩ ?_
    refine g_icmp_ge (off := 32) (tgt := 38) (by decide +kernel) (by decide) (fun c1 => ?_) (fun c1 => ?_)
    · have nc1 : 5 ≤ i := (nI_leI (by omega) (by omega)).mp (by simpa only [nI_add, pk_mul, nI_s1, n0_lit] using c1)
      have e : i = 5 := by omega
      subst e
      exact g_return (by decide +kernel) rfl ⟨rfl, j1, j2⟩
    · have nc1 : i < 5 := by
        have z : ¬ nI 5 ≤ nI i := by simpa only [nI_add, pk_mul, nI_s1, n0_lit] using c1
        rw [nI_leI (by omega) (by omega)] at z
        omega
      refine blk 3 [(.iload_n 1, 0, 0, 0), (.iload 5, 0, 0, 0)] [] (by decide +kernel) rfl (pc' := 12) (ls' := [some (.ref 37), some (.int S), some (.ref 15), some (.int (nI n)), some (.int g), some (.int (nI i))]) (st' := [.int (nI i), .int S]) (M' := M) rfl ⟨trivial, trivial, trivial⟩ ?_
      refine g_callN (index := 28) (s_holds _ S i) rfl (by decide) ⟨ok_X6_holds.1, ok_X6_holds.2.1, ok_X6_holds.2.2.1, ok_X6_holds.2.2.2, by decide +kernel, by decide +kernel⟩ (by decide +kernel) rfl (Nat.le_of_ble_eq_true rfl) (fun r M' h => ?_) rfl
      obtain ⟨hr, hM⟩ := h
      rw [hr, hM]
      show G _ 15 [some (.ref 37), some (.int S), some (.ref 15), some (.int (nI n)), some (.int g), some (.int (nI i))] [.int (hb S i)] M _
      refine g_if_eq (off := 17) (tgt := 32) (by decide +kernel) (by decide) (fun c2 => ?_) (fun c2 => ?_)
      · refine blk 3 [(.iinc 5 1, 0, 0, (nI 1)), (.goto (-32), 3, 0, 0)] [] (by decide +kernel) rfl (pc' := 3) (ls' := [some (.ref 37), some (.int S), some (.ref 15), some (.int (nI n)), some (.int g), some (.int (nI i + nI 1))]) (st' := []) (M' := M) rfl ⟨trivial, trivial, trivial⟩ ?_
        refine G.sub (ls' := [some (.ref 37), some (.int S), some (.ref 15), some (.int (nI n)), some (.int g), some (.int (nI (i + 1)))]) ?_ ⟨rfl, rfl, rfl, rfl, rfl, congrArg (fun z => some (Value.int z)) (by simp only [nI_add, nI_s1]), trivial⟩
        refine ih (d - 1) (by omega) (i + 1) M (by omega) (by omega) (fun a h1 h2 => ?_) (fun z hz => j2 z (fun a h1 h2 => hz a (by omega) h2))
        by_cases e : a = i
        · subst e; exact absurd c2 h2
        · exact j1 a (by omega) h2
      · refine blk 3 [(.aload_n 0, 0, 0, 0), (.getfield 11, 3, 0, 0), (.iload 5, 0, 0, 0), (.aaload, 0, 0, 0), (.aload_n 2, 0, 0, 0), (.iload_n 3, 0, 0, 0), (.iload 4, 0, 0, 0)] [i] (by decide +kernel) rfl (pc' := 29) (ls' := [some (.ref 37), some (.int S), some (.ref 15), some (.int (nI n)), some (.int g), some (.int (nI i))]) (st' := [.int g, .int (nI n), .ref 15, .ref (61 + i)]) (M' := M) rfl ⟨trivial, rfl, trivial, ⟨rfl, (by show _ < 5; omega)⟩, trivial, trivial, trivial, trivial⟩ ?_
        have e15 : M 15 = M0 15 := j2 15 (fun a _ _ => by omega)
        have eB : M (61 + i) = M0 (61 + i) := j2 _ (fun a _ _ => by omega)
        have eC : M (61 + i + 5) = M0 (61 + i + 5) := j2 _ (fun a _ _ => by omega)
        refine g_callV (s_rspread M (t := 61 + i) (n := n) (w := ncnt (M0 15) g n) (g := g) (kd61 (by omega)) (by rw [eB]; exact hw i (by omega) c2) (by rw [e15]) hn (by rw [al66 (by omega)]; omega) (by omega) (by omega)) ok_X3_spread_X2_spread (by decide +kernel) rfl (c := 2) (kd61 (by omega)) (by decide) rfl (Nat.le_of_ble_eq_true rfl) (fun r N h => ?_) rfl
        obtain ⟨hr, q1, q2, q3⟩ := h
        rw [hr]
        rw [e15, eC] at q2
        show G _ 32 [some (.ref 37), some (.int S), some (.ref 15), some (.int (nI n)), some (.int g), some (.int (nI i))] [] N _
        refine blk 3 [(.iinc 5 1, 0, 0, (nI 1)), (.goto (-32), 3, 0, 0)] [] (by decide +kernel) rfl (pc' := 3) (ls' := [some (.ref 37), some (.int S), some (.ref 15), some (.int (nI n)), some (.int g), some (.int (nI i + nI 1))]) (st' := []) (M' := N) rfl ⟨trivial, trivial, trivial⟩ ?_
        refine G.sub (ls' := [some (.ref 37), some (.int S), some (.ref 15), some (.int (nI n)), some (.int g), some (.int (nI (i + 1)))]) ?_ ⟨rfl, rfl, rfl, rfl, rfl, congrArg (fun z => some (Value.int z)) (by simp only [nI_add, nI_s1]), trivial⟩
        refine ih (d - 1) (by omega) (i + 1) N (by omega) (by omega) (fun a h1 h2 => ?_) (fun z hz => ?_)
        · by_cases e : a = i
          · subst e; exact ⟨q1, q2⟩
          · rw [q3 (61 + a) (by omega) (by omega), q3 (61 + a + 5) (by omega) (by omega)]; exact j1 a (by omega) h2
        · rw [q3 z (hz i (by omega) c2).1 (hz i (by omega) c2).2]; exact j2 z (fun a h1 h2 => hz a (by omega) h2)
theorem s_sspread37 (M : Mem) {n : Nat} {S g : Int32} (hn : n ≤ 60) (hw : ∀ a, a < 5 → ¬ hb S a = 0 → M (61 + a) 1 = nI (ncnt (M 15) g n)) : Spec mX3_spread [.ref 37, .int S, .ref 15, .int (nI n), .int g] M (fun r N => r = none ∧ sprJ1 M N 61 n S g 5 ∧ sprJ2 M N 61 S 5) := by
  refine Spec.of (by decide) (by simp [Value.category]) (Nat.le_of_ble_eq_true rfl) ?_
  refine blk 3 [(.iconst 0, 0, 0, (nI 0)), (.istore 5, 0, 0, 0)] [] (by decide +kernel) rfl (pc' := 3) (ls' := [some (.ref 37), some (.int S), some (.ref 15), some (.int (nI n)), some (.int g), some (.int (nI 0))]) (st' := []) (M' := M) rfl ⟨trivial, trivial, trivial⟩ ?_
  exact l_sspread37 hn hw _ 0 M rfl (by omega) (fun a h => absurd h (by omega)) (fun z _ => rfl)
end
section
/-! sheets: copyWithout -/
def bcnt (p : Nat → Bool) : Nat → Nat
  | 0 => 0
  | k + 1 => bcnt p k + if p k then 1 else 0
theorem bcnt_le (p : Nat → Bool) (k : Nat) : bcnt p k ≤ k := by
  induction k with
  | zero => exact Nat.le_refl 0
  | succ k ih => rw [bcnt]; split <;> omega
theorem bcnt_mono (p : Nat → Bool) {j k : Nat} (h : j ≤ k) : bcnt p j ≤ bcnt p k := by
  induction k with
  | zero => rw [Nat.le_zero.mp h]; exact Nat.le_refl _
  | succ k ih =>
    rcases Nat.lt_or_ge k j with h1 | h1
    · rw [show j = k + 1 by omega]; exact Nat.le_refl _
    · rw [bcnt]; have := ih h1; omega
theorem bcnt_lt (p : Nat → Bool) {j k : Nat} (h : j < k) (hp : p j = true) : bcnt p j < bcnt p k := by
  have h1 := bcnt_mono p (show j + 1 ≤ k from h)
  rw [bcnt, if_pos hp] at h1
  omega
theorem anyB_congr {p q : Nat → Bool} {n : Nat} (h : ∀ i, i < n → p i = q i) : anyB p n = anyB q n := by
  induction n with
  | zero => rfl
  | succ n ih => rw [anyB, anyB, ih (fun i hi => h i (by omega)), h n (by omega)]
/-- the columns in which a word of S has a letter -/
def keepB (M : Mem) (B : Nat) (S : Int32) : Nat → Bool := fun k => anyB (hasF M B S k) 5
def cpwI (M N : Mem) (B C : Nat) (S : Int32) (k : Nat) : Prop := ∀ a, a < 5 → ¬ hb S a = 0 → ∀ j, j < k → keepB M C S j = true → N (B + a + 5) (bcnt (keepB M C S) j) = M (C + a + 5) j
theorem bI_ne {b : Bool} (h : ¬ bI b = 0) : b = true := by cases b <;> simp_all [bI]
theorem bI_eq {b : Bool} (h : bI b = 0) : b = false := by cases b <;> simp_all [bI]
theorem l_cpw235 {M0 : Mem} {S : Int32} {k : Nat} {Post : Option Value → Mem → Prop} (hk : k < 60) (hp : ∀ M, (∀ z, (∀ a, a < 5 → ¬ hb S a = 0 → z ≠ 51 + a + 5) → M z = M0 z) → cpwI M0 M 51 61 S (k + 1) → G mX3_copyWithout 84 [some (.ref 35), some (.ref 37), some (.int S), some (.int (nI (bcnt (keepB M0 61 S) k + 1))), some (.int (nI k)), none] [] M Post) : ∀ d i M, d = 5 - i → i ≤ 5 → (∀ z, (∀ a, a < 5 → ¬ hb S a = 0 → z ≠ 51 + a + 5) → M z = M0 z) → cpwI M0 M 51 61 S k → (∀ a, a < i → ¬ hb S a = 0 → M (51 + a + 5) (bcnt (keepB M0 61 S) k) = M0 (61 + a + 5) k) → G mX3_copyWithout 35 [some (.ref 35), some (.ref 37), some (.int S), some (.int (nI (bcnt (keepB M0 61 S) k))), some (.int (nI k)), some (.int (nI i))] [] M Post := by
  intro d
  induction d using Nat.strongRecOn with
  | ind d ih =>
    intro i M hd hj j1 j2 j3
    refine blk 3 [(.iload 5, 0, 0, 0), (.iconst 5, 0, 0, (nI 5))] [] (by decide +kernel) rfl (pc' := 38) (ls' := [some (.ref 35), some (.ref 37), some (.int S), some (.int (nI (bcnt (keepB M0 61 S) k))), some (.int (nI k)), some (.int (nI i))]) (st' := [.int (nI 5), .int (nI i)]) (M' := M) rfl ⟨trivial, trivial, trivial⟩ ?_
    refine g_icmp_ge (off := 43) (tgt := 81) (by decide +kernel) (by decide) (fun c1 => ?_) (fun c1 => ?_)
    · have nc1 : 5 ≤ i := (nI_leI (by omega) (by omega)).mp (by simpa only [nI_add, pk_mul, nI_s1, n0_lit] using c1)
      refine blk 3 [(.iinc 3 1, 0, 0, (nI 1))] [] (by decide +kernel) rfl (pc' := 84) (ls' := [some (.ref 35), some (.ref 37), some (.int S), some (.int (nI (bcnt (keepB M0 61 S) k) + nI 1)), some (.int (nI k)), some (.int (nI i))]) (st' := []) (M' := M) rfl ⟨trivial, trivial⟩ ?_
      have e : i = 5 := by omega
      subst e
      refine G.sub (ls' := [some (.ref 35), some (.ref 37), some (.int S), some (.int (nI (bcnt (keepB M0 61 S) k + 1))), some (.int (nI k)), none]) ?_ ⟨rfl, rfl, rfl, congrArg (fun z => some (Value.int z)) (by simp only [nI_add, nI_s1]), rfl, trivial⟩
      refine hp M j1 (fun a h1 h2 j h3 h4 => ?_)
      by_cases e : j = k
      · subst e; exact j3 a h1 h2
      · exact j2 a h1 h2 j (by omega) h4
    · have nc1 : i < 5 := by
        have z : ¬ nI 5 ≤ nI i := by simpa only [nI_add, pk_mul, nI_s1, n0_lit] using c1
        rw [nI_leI (by omega) (by omega)] at z
        omega
      refine blk 3 [(.iload_n 2, 0, 0, 0), (.iload 5, 0, 0, 0)] [] (by decide +kernel) rfl (pc' := 44) (ls' := [some (.ref 35), some (.ref 37), some (.int S), some (.int (nI (bcnt (keepB M0 61 S) k))), some (.int (nI k)), some (.int (nI i))]) (st' := [.int (nI i), .int S]) (M' := M) rfl ⟨trivial, trivial, trivial⟩ ?_
      refine g_callN (index := 28) (s_holds _ S i) rfl (by decide) ⟨ok_X6_holds.1, ok_X6_holds.2.1, ok_X6_holds.2.2.1, ok_X6_holds.2.2.2, by decide +kernel, by decide +kernel⟩ (by decide +kernel) rfl (Nat.le_of_ble_eq_true rfl) (fun r M' h => ?_) rfl
      obtain ⟨hr, hM⟩ := h
      rw [hr, hM]
      show G _ 47 [some (.ref 35), some (.ref 37), some (.int S), some (.int (nI (bcnt (keepB M0 61 S) k))), some (.int (nI k)), some (.int (nI i))] [.int (hb S i)] M _
      refine g_if_eq (off := 28) (tgt := 75) (by decide +kernel) (by decide) (fun c2 => ?_) (fun c2 => ?_)
      · refine blk 3 [(.iinc 5 1, 0, 0, (nI 1)), (.goto (-43), 35, 0, 0)] [] (by decide +kernel) rfl (pc' := 35) (ls' := [some (.ref 35), some (.ref 37), some (.int S), some (.int (nI (bcnt (keepB M0 61 S) k))), some (.int (nI k)), some (.int (nI i + nI 1))]) (st' := []) (M' := M) rfl ⟨trivial, trivial, trivial⟩ ?_
        refine G.sub (ls' := [some (.ref 35), some (.ref 37), some (.int S), some (.int (nI (bcnt (keepB M0 61 S) k))), some (.int (nI k)), some (.int (nI (i + 1)))]) ?_ ⟨rfl, rfl, rfl, rfl, rfl, congrArg (fun z => some (Value.int z)) (by simp only [nI_add, nI_s1]), trivial⟩
        exact ih (d - 1) (by omega) (i + 1) _ (by omega) (by omega) j1 j2 (fun a h1 h2 => by
                by_cases e : a = i
                · subst e; exact absurd c2 h2
                · exact j3 a (by omega) h2)
      · refine blk 3 [(.aload_n 0, 0, 0, 0), (.getfield 11, 3, 0, 0), (.iload 5, 0, 0, 0), (.aaload, 0, 0, 0), (.getfield 31, 2, 0, 0), (.iload_n 3, 0, 0, 0), (.aload_n 1, 0, 0, 0), (.getfield 11, 3, 0, 0), (.iload 5, 0, 0, 0), (.aaload, 0, 0, 0), (.getfield 31, 2, 0, 0), (.iload 4, 0, 0, 0), (.iaload, 0, 0, 0), (.iastore, 0, 0, 0), (.iinc 5 1, 0, 0, (nI 1)), (.goto (-43), 35, 0, 0)] [i, i, k, bcnt (keepB M0 61 S) k] (by decide +kernel) rfl (pc' := 35) (ls' := [some (.ref 35), some (.ref 37), some (.int S), some (.int (nI (bcnt (keepB M0 61 S) k))), some (.int (nI k)), some (.int (nI i + nI 1))]) (st' := []) (M' := stm M (51 + i + 5) (bcnt (keepB M0 61 S) k) (M (61 + i + 5) k)) rfl ⟨trivial, rfl, trivial, ⟨rfl, (by show _ < 5; omega)⟩, (kd51 (by omega)), trivial, trivial, rfl, trivial, ⟨rfl, (by show _ < 5; omega)⟩, (kd61 (by omega)), trivial, ⟨rfl, (Nat.lt_of_lt_of_eq (by omega : k < 60) (al66 (i := i) (by omega)).symm)⟩, ⟨rfl, (Nat.lt_of_lt_of_eq (by have := bcnt_le (keepB M0 61 S) k; omega : bcnt (keepB M0 61 S) k < 60) (al56 (i := i) (by omega)).symm), by show 51 + i + 5 < 96; omega⟩, trivial, trivial, trivial⟩ ?_
        refine G.sub (ls' := [some (.ref 35), some (.ref 37), some (.int S), some (.int (nI (bcnt (keepB M0 61 S) k))), some (.int (nI k)), some (.int (nI (i + 1)))]) ?_ ⟨rfl, rfl, rfl, rfl, rfl, congrArg (fun z => some (Value.int z)) (by simp only [nI_add, nI_s1]), trivial⟩
        refine ih (d - 1) (by omega) (i + 1) _ (by omega) (by omega) (fun z hz => ?_) (fun a h1 h2 j h3 h4 => ?_) (fun a h1 h2 => ?_)
        · rw [stm_ne (hz i (by omega) c2)]; exact j1 z hz
        · have hlt := bcnt_lt _ h3 h4
          by_cases e : a = i
          · subst e; rw [stm_off (by omega)]; exact j2 a h1 h2 j h3 h4
          · rw [stm_ne (by omega)]; exact j2 a h1 h2 j h3 h4
        · by_cases e : a = i
          · subst e; rw [stm_self, j1 (61 + a + 5) (fun b _ _ => by omega)]
          · rw [stm_ne (by omega)]; exact j3 a (by omega) h2
theorem l_cpw335 {M1 : Mem} {S : Int32} {v : Nat} {Post : Option Value → Mem → Prop} (hp : ∀ M, (∀ z, (∀ a, a < 5 → z ≠ 51 + a) → M z = M1 z) → (∀ a, a < 5 → M (51 + a) 1 = nI v) → Post none M) : ∀ d i M, d = 5 - i → i ≤ 5 → (∀ z, (∀ a, a < i → z ≠ 51 + a) → M z = M1 z) → (∀ a, a < i → M (51 + a) 1 = nI v) → G mX3_copyWithout 93 [some (.ref 35), some (.ref 37), some (.int S), some (.int (nI v)), some (.int (nI i)), none] [] M Post := by
  intro d
  induction d using Nat.strongRecOn with
  | ind d ih =>
    intro i M hd hj j1 j2
    refine blk 3 [(.iload 4, 0, 0, 0), (.iconst 5, 0, 0, (nI 5))] [] (by decide +kernel) rfl (pc' := 96) (ls' := [some (.ref 35), some (.ref 37), some (.int S), some (.int (nI v)), some (.int (nI i)), none]) (st' := [.int (nI 5), .int (nI i)]) (M' := M) rfl ⟨trivial, trivial, trivial⟩ ?_
    refine g_icmp_ge (off := 20) (tgt := 116) (by decide +kernel) (by decide) (fun c1 => ?_) (fun c1 => ?_)
    · have nc1 : 5 ≤ i := (nI_leI (by omega) (by omega)).mp (by simpa only [nI_add, pk_mul, nI_s1, n0_lit] using c1)
      have e : i = 5 := by omega
      subst e
      exact g_return (by decide +kernel) rfl (hp M j1 j2)
    · have nc1 : i < 5 := by
        have z : ¬ nI 5 ≤ nI i := by simpa only [nI_add, pk_mul, nI_s1, n0_lit] using c1
        rw [nI_leI (by omega) (by omega)] at z
        omega
      refine blk 3 [(.aload_n 0, 0, 0, 0), (.getfield 11, 3, 0, 0), (.iload 4, 0, 0, 0), (.aaload, 0, 0, 0), (.iload_n 3, 0, 0, 0), (.putfield 20, 2, 1, 0), (.iinc 4 1, 0, 0, (nI 1)), (.goto (-20), 93, 0, 0)] [i] (by decide +kernel) rfl (pc' := 93) (ls' := [some (.ref 35), some (.ref 37), some (.int S), some (.int (nI v)), some (.int (nI i + nI 1)), none]) (st' := []) (M' := stm M (51 + i) 1 (nI v)) rfl ⟨trivial, rfl, trivial, ⟨rfl, (by show _ < 5; omega)⟩, trivial, (kd51 (by omega)), trivial, trivial, trivial⟩ ?_
      refine G.sub (ls' := [some (.ref 35), some (.ref 37), some (.int S), some (.int (nI v)), some (.int (nI (i + 1))), none]) ?_ ⟨rfl, rfl, rfl, rfl, congrArg (fun z => some (Value.int z)) (by simp only [nI_add, nI_s1]), trivial⟩
      refine ih (d - 1) (by omega) (i + 1) _ (by omega) (by omega) (fun z hz => ?_) (fun a h1 => ?_)
      · rw [stm_ne (hz i (by omega))]; exact j1 z (fun a h => hz a (by omega))
      · by_cases e : a = i
        · subst e; rw [stm_self]
        · rw [stm_ne (by omega)]; exact j2 a (by omega)
def cpwP (M : Mem) (B C : Nat) (S : Int32) (w : Nat) : Option Value → Mem → Prop := fun r N => r = none ∧ (∀ a, a < 5 → N (B + a) 1 = nI (bcnt (keepB M C S) w)) ∧ cpwI M N B C S w ∧ ∀ z, (∀ a, a < 5 → z ≠ B + a ∧ z ≠ B + a + 5) → N z = M z
theorem l_cpw35 {M0 : Mem} {S : Int32} {Wd0 : Nat} (hw : Wd0 ≤ 60) (hW0 : M0 61 1 = nI Wd0) : ∀ d k M, d = Wd0 - k → k ≤ Wd0 → (∀ z, (∀ a, a < 5 → ¬ hb S a = 0 → z ≠ 51 + a + 5) → M z = M0 z) → cpwI M0 M 51 61 S k → G mX3_copyWithout 5 [some (.ref 35), some (.ref 37), some (.int S), some (.int (nI (bcnt (keepB M0 61 S) k))), some (.int (nI k)), none] [] M (cpwP M0 51 61 S Wd0) := by
  intro d
  induction d using Nat.strongRecOn with
  | ind d ih =>
    intro k M hd hj j1 j2
    have hW : M 61 1 = nI Wd0 := by rw [j1 61 (fun a _ _ => by omega)]; exact hW0
    refine blk 3 [(.iload 4, 0, 0, 0), (.aload_n 1, 0, 0, 0), (.getfield 11, 3, 0, 0), (.iconst 0, 0, 0, (nI 0)), (.aaload, 0, 0, 0), (.getfield 20, 2, 1, 0)] [0] (by decide +kernel) rfl (pc' := 16) (ls' := [some (.ref 35), some (.ref 37), some (.int S), some (.int (nI (bcnt (keepB M0 61 S) k))), some (.int (nI k)), none]) (st' := [.int (M 61 1), .int (nI k)]) (M' := M) rfl ⟨trivial, trivial, rfl, trivial, ⟨rfl, (by decide)⟩, rfl, trivial⟩ ?_
    refine g_icmp_ge (off := 74) (tgt := 90) (by decide +kernel) (by decide) (fun c1 => ?_) (fun c1 => ?_)
    · have nc1 : Wd0 ≤ k := (nI_leI (by omega) (by omega)).mp (by simpa only [hW, nI_add, pk_mul, nI_s1, n0_lit] using c1)
      refine blk 3 [(.iconst 0, 0, 0, (nI 0)), (.istore 4, 0, 0, 0)] [] (by decide +kernel) rfl (pc' := 93) (ls' := [some (.ref 35), some (.ref 37), some (.int S), some (.int (nI (bcnt (keepB M0 61 S) k))), some (.int (nI 0)), none]) (st' := []) (M' := M) rfl ⟨trivial, trivial, trivial⟩ ?_
      have e : k = Wd0 := by omega
      subst e
      refine l_cpw335 (M1 := M) (fun N h1 h2 => ⟨rfl, h2, fun a b1 b2 j b3 b4 => ?_, fun z hz => ?_⟩) _ 0 M rfl (by omega) (fun z _ => rfl) (fun a h => absurd h (by omega))
      · rw [h1 _ (fun c _ => by omega)]; exact j2 a b1 b2 j b3 b4
      · rw [h1 z (fun a h => (hz a h).1)]; exact j1 z (fun a h _ => (hz a h).2)
    · have nc1 : k < Wd0 := by
        have z : ¬ nI Wd0 ≤ nI k := by simpa only [hW, nI_add, pk_mul, nI_s1, n0_lit] using c1
        rw [nI_leI (by omega) (by omega)] at z
        omega
      refine blk 3 [(.aload_n 1, 0, 0, 0), (.iload 4, 0, 0, 0), (.iload_n 2, 0, 0, 0)] [] (by decide +kernel) rfl (pc' := 23) (ls' := [some (.ref 35), some (.ref 37), some (.int S), some (.int (nI (bcnt (keepB M0 61 S) k))), some (.int (nI k)), none]) (st' := [.int S, .int (nI k), .ref 37]) (M' := M) rfl ⟨trivial, trivial, trivial, trivial⟩ ?_
      refine g_callV (s_has37 M S (k := k) (by omega)) ok_X3_copyWithout_X3_hasLetter (by decide +kernel) rfl (c := 3) rfl (by decide) rfl (Nat.le_of_ble_eq_true rfl) (fun r M' h => ?_) rfl
      obtain ⟨hr, hM⟩ := h
      rw [hr, hM]
      show G _ 26 [some (.ref 35), some (.ref 37), some (.int S), some (.int (nI (bcnt (keepB M0 61 S) k))), some (.int (nI k)), none] [.int (bI (anyB (hasF M 61 S k) 5))] M _
      rw [show anyB (hasF M 61 S k) 5 = keepB M0 61 S k from anyB_congr (fun i hi => by simp only [hasF]; rw [j1 (61 + i + 5) (fun a _ _ => by omega)])]
      refine g_if_ne (off := 6) (tgt := 32) (by decide +kernel) (by decide) (fun c2 => ?_) (fun c2 => ?_)
      · refine blk 3 [(.iconst 0, 0, 0, (nI 0)), (.istore 5, 0, 0, 0)] [] (by decide +kernel) rfl (pc' := 35) (ls' := [some (.ref 35), some (.ref 37), some (.int S), some (.int (nI (bcnt (keepB M0 61 S) k))), some (.int (nI k)), some (.int (nI 0))]) (st' := []) (M' := M) rfl ⟨trivial, trivial, trivial⟩ ?_
        refine l_cpw235 (by omega) (fun N h1 h2 => ?_) _ 0 M rfl (by omega) j1 j2 (fun a h => absurd h (by omega))
        have ep : bcnt (keepB M0 61 S) (k + 1) = bcnt (keepB M0 61 S) k + 1 := by rw [bcnt, if_pos (bI_ne c2)]
        rw [← ep]
        refine blk 3 [(.iinc 4 1, 0, 0, (nI 1)), (.goto (-82), 5, 0, 0)] [] (by decide +kernel) rfl (pc' := 5) (ls' := [some (.ref 35), some (.ref 37), some (.int S), some (.int (nI (bcnt (keepB M0 61 S) (k + 1)))), some (.int (nI k + nI 1)), none]) (st' := []) (M' := N) rfl ⟨trivial, trivial, trivial⟩ ?_
        refine G.sub (ls' := [some (.ref 35), some (.ref 37), some (.int S), some (.int (nI (bcnt (keepB M0 61 S) (k + 1)))), some (.int (nI (k + 1))), none]) ?_ ⟨rfl, rfl, rfl, rfl, congrArg (fun z => some (Value.int z)) (nI_add _ _), trivial⟩
        exact ih (d - 1) (by omega) (k + 1) N (by omega) (by omega) h1 h2
      · refine blk 3 [(.goto (55), 84, 0, 0), (.iinc 4 1, 0, 0, (nI 1)), (.goto (-82), 5, 0, 0)] [] (by decide +kernel) rfl (pc' := 5) (ls' := [some (.ref 35), some (.ref 37), some (.int S), some (.int (nI (bcnt (keepB M0 61 S) k))), some (.int (nI k + nI 1)), none]) (st' := []) (M' := M) rfl ⟨trivial, trivial, trivial, trivial⟩ ?_
        have ep : bcnt (keepB M0 61 S) (k + 1) = bcnt (keepB M0 61 S) k := by rw [bcnt, if_neg (by rw [bI_eq c2]; decide)]; omega
        refine G.sub (ls' := [some (.ref 35), some (.ref 37), some (.int S), some (.int (nI (bcnt (keepB M0 61 S) (k + 1)))), some (.int (nI (k + 1))), none]) ?_ ⟨rfl, rfl, rfl, congrArg (fun z => some (Value.int z)) (by rw [ep]), congrArg (fun z => some (Value.int z)) (by simp only [nI_add, nI_s1]), trivial⟩
        refine ih (d - 1) (by omega) (k + 1) M (by omega) (by omega) j1 (fun a h1 h2 j h3 h4 => ?_)
        by_cases e : j = k
        · subst e; rw [bI_eq c2] at h4; cases h4
        · exact j2 a h1 h2 j (by omega) h4
theorem s_cpw35 (M : Mem) (S : Int32) {Wd0 : Nat} (hw : Wd0 ≤ 60) (hW : M 61 1 = nI Wd0) : Spec mX3_copyWithout [.ref 35, .ref 37, .int S] M (cpwP M 51 61 S Wd0) := by
  refine Spec.of (by decide) (by simp [Value.category]) (Nat.le_of_ble_eq_true rfl) ?_
  refine blk 3 [(.iconst 0, 0, 0, (nI 0)), (.istore_n 3, 0, 0, 0), (.iconst 0, 0, 0, (nI 0)), (.istore 4, 0, 0, 0)] [] (by decide +kernel) rfl (pc' := 5) (ls' := [some (.ref 35), some (.ref 37), some (.int S), some (.int (nI 0)), some (.int (nI 0)), none]) (st' := []) (M' := M) rfl ⟨trivial, trivial, trivial, trivial, trivial⟩ ?_
  exact l_cpw35 hw hW _ 0 M rfl (by omega) (fun z _ => rfl) (fun a _ _ j h => absurd h (by omega))
theorem l_cpw237 {M0 : Mem} {S : Int32} {k : Nat} {Post : Option Value → Mem → Prop} (hk : k < 60) (hp : ∀ M, (∀ z, (∀ a, a < 5 → ¬ hb S a = 0 → z ≠ 61 + a + 5) → M z = M0 z) → cpwI M0 M 61 51 S (k + 1) → G mX3_copyWithout 84 [some (.ref 37), some (.ref 35), some (.int S), some (.int (nI (bcnt (keepB M0 51 S) k + 1))), some (.int (nI k)), none] [] M Post) : ∀ d i M, d = 5 - i → i ≤ 5 → (∀ z, (∀ a, a < 5 → ¬ hb S a = 0 → z ≠ 61 + a + 5) → M z = M0 z) → cpwI M0 M 61 51 S k → (∀ a, a < i → ¬ hb S a = 0 → M (61 + a + 5) (bcnt (keepB M0 51 S) k) = M0 (51 + a + 5) k) → G mX3_copyWithout 35 [some (.ref 37), some (.ref 35), some (.int S), some (.int (nI (bcnt (keepB M0 51 S) k))), some (.int (nI k)), some (.int (nI i))] [] M Post := by
  intro d
  induction d using Nat.strongRecOn with
  | ind d ih =>
    intro i M hd hj j1 j2 j3
    refine blk 3 [(.iload 5, 0, 0, 0), (.iconst 5, 0, 0, (nI 5))] [] (by decide +kernel) rfl (pc' := 38) (ls' := [some (.ref 37), some (.ref 35), some (.int S), some (.int (nI (bcnt (keepB M0 51 S) k))), some (.int (nI k)), some (.int (nI i))]) (st' := [.int (nI 5), .int (nI i)]) (M' := M) rfl ⟨trivial, trivial, trivial⟩ ?_
    refine g_icmp_ge (off := 43) (tgt := 81) (by decide +kernel) (by decide) (fun c1 => ?_) (fun c1 => ?_)
    · have nc1 : 5 ≤ i := (nI_leI (by omega) (by omega)).mp (by simpa only [nI_add, pk_mul, nI_s1, n0_lit] using c1)
      refine blk 3 [(.iinc 3 1, 0, 0, (nI 1))] [] (by decide +kernel) rfl (pc' := 84) (ls' := [some (.ref 37), some (.ref 35), some (.int S), some (.int (nI (bcnt (keepB M0 51 S) k) + nI 1)), some (.int (nI k)), some (.int (nI i))]) (st' := []) (M' := M) rfl ⟨trivial, trivial⟩ ?_
      have e : i = 5 := by omega
      subst e
      refine G.sub (ls' := [some (.ref 37), some (.ref 35), some (.int S), some (.int (nI (bcnt (keepB M0 51 S) k + 1))), some (.int (nI k)), none]) ?_ ⟨rfl, rfl, rfl, congrArg (fun z => some (Value.int z)) (by simp only [nI_add, nI_s1]), rfl, trivial⟩
      refine hp M j1 (fun a h1 h2 j h3 h4 => ?_)
      by_cases e : j = k
      · subst e; exact j3 a h1 h2
      · exact j2 a h1 h2 j (by omega) h4
    · have nc1 : i < 5 := by
        have z : ¬ nI 5 ≤ nI i := by simpa only [nI_add, pk_mul, nI_s1, n0_lit] using c1
        rw [nI_leI (by omega) (by omega)] at z
        omega
      refine blk 3 [(.iload_n 2, 0, 0, 0), (.iload 5, 0, 0, 0)] [] (by decide +kernel) rfl (pc' := 44) (ls' := [some (.ref 37), some (.ref 35), some (.int S), some (.int (nI (bcnt (keepB M0 51 S) k))), some (.int (nI k)), some (.int (nI i))]) (st' := [.int (nI i), .int S]) (M' := M) rfl ⟨trivial, trivial, trivial⟩ ?_
      refine g_callN (index := 28) (s_holds _ S i) rfl (by decide) ⟨ok_X6_holds.1, ok_X6_holds.2.1, ok_X6_holds.2.2.1, ok_X6_holds.2.2.2, by decide +kernel, by decide +kernel⟩ (by decide +kernel) rfl (Nat.le_of_ble_eq_true rfl) (fun r M' h => ?_) rfl
      obtain ⟨hr, hM⟩ := h
      rw [hr, hM]
      show G _ 47 [some (.ref 37), some (.ref 35), some (.int S), some (.int (nI (bcnt (keepB M0 51 S) k))), some (.int (nI k)), some (.int (nI i))] [.int (hb S i)] M _
      refine g_if_eq (off := 28) (tgt := 75) (by decide +kernel) (by decide) (fun c2 => ?_) (fun c2 => ?_)
      · refine blk 3 [(.iinc 5 1, 0, 0, (nI 1)), (.goto (-43), 35, 0, 0)] [] (by decide +kernel) rfl (pc' := 35) (ls' := [some (.ref 37), some (.ref 35), some (.int S), some (.int (nI (bcnt (keepB M0 51 S) k))), some (.int (nI k)), some (.int (nI i + nI 1))]) (st' := []) (M' := M) rfl ⟨trivial, trivial, trivial⟩ ?_
        refine G.sub (ls' := [some (.ref 37), some (.ref 35), some (.int S), some (.int (nI (bcnt (keepB M0 51 S) k))), some (.int (nI k)), some (.int (nI (i + 1)))]) ?_ ⟨rfl, rfl, rfl, rfl, rfl, congrArg (fun z => some (Value.int z)) (by simp only [nI_add, nI_s1]), trivial⟩
        exact ih (d - 1) (by omega) (i + 1) _ (by omega) (by omega) j1 j2 (fun a h1 h2 => by
                by_cases e : a = i
                · subst e; exact absurd c2 h2
                · exact j3 a (by omega) h2)
      · refine blk 3 [(.aload_n 0, 0, 0, 0), (.getfield 11, 3, 0, 0), (.iload 5, 0, 0, 0), (.aaload, 0, 0, 0), (.getfield 31, 2, 0, 0), (.iload_n 3, 0, 0, 0), (.aload_n 1, 0, 0, 0), (.getfield 11, 3, 0, 0), (.iload 5, 0, 0, 0), (.aaload, 0, 0, 0), (.getfield 31, 2, 0, 0), (.iload 4, 0, 0, 0), (.iaload, 0, 0, 0), (.iastore, 0, 0, 0), (.iinc 5 1, 0, 0, (nI 1)), (.goto (-43), 35, 0, 0)] [i, i, k, bcnt (keepB M0 51 S) k] (by decide +kernel) rfl (pc' := 35) (ls' := [some (.ref 37), some (.ref 35), some (.int S), some (.int (nI (bcnt (keepB M0 51 S) k))), some (.int (nI k)), some (.int (nI i + nI 1))]) (st' := []) (M' := stm M (61 + i + 5) (bcnt (keepB M0 51 S) k) (M (51 + i + 5) k)) rfl ⟨trivial, rfl, trivial, ⟨rfl, (by show _ < 5; omega)⟩, (kd61 (by omega)), trivial, trivial, rfl, trivial, ⟨rfl, (by show _ < 5; omega)⟩, (kd51 (by omega)), trivial, ⟨rfl, (Nat.lt_of_lt_of_eq (by omega : k < 60) (al56 (i := i) (by omega)).symm)⟩, ⟨rfl, (Nat.lt_of_lt_of_eq (by have := bcnt_le (keepB M0 51 S) k; omega : bcnt (keepB M0 51 S) k < 60) (al66 (i := i) (by omega)).symm), by show 61 + i + 5 < 96; omega⟩, trivial, trivial, trivial⟩ ?_
        refine G.sub (ls' := [some (.ref 37), some (.ref 35), some (.int S), some (.int (nI (bcnt (keepB M0 51 S) k))), some (.int (nI k)), some (.int (nI (i + 1)))]) ?_ ⟨rfl, rfl, rfl, rfl, rfl, congrArg (fun z => some (Value.int z)) (by simp only [nI_add, nI_s1]), trivial⟩
        refine ih (d - 1) (by omega) (i + 1) _ (by omega) (by omega) (fun z hz => ?_) (fun a h1 h2 j h3 h4 => ?_) (fun a h1 h2 => ?_)
        · rw [stm_ne (hz i (by omega) c2)]; exact j1 z hz
        · have hlt := bcnt_lt _ h3 h4
          by_cases e : a = i
          · subst e; rw [stm_off (by omega)]; exact j2 a h1 h2 j h3 h4
          · rw [stm_ne (by omega)]; exact j2 a h1 h2 j h3 h4
        · by_cases e : a = i
          · subst e; rw [stm_self, j1 (51 + a + 5) (fun b _ _ => by omega)]
          · rw [stm_ne (by omega)]; exact j3 a (by omega) h2
theorem l_cpw337 {M1 : Mem} {S : Int32} {v : Nat} {Post : Option Value → Mem → Prop} (hp : ∀ M, (∀ z, (∀ a, a < 5 → z ≠ 61 + a) → M z = M1 z) → (∀ a, a < 5 → M (61 + a) 1 = nI v) → Post none M) : ∀ d i M, d = 5 - i → i ≤ 5 → (∀ z, (∀ a, a < i → z ≠ 61 + a) → M z = M1 z) → (∀ a, a < i → M (61 + a) 1 = nI v) → G mX3_copyWithout 93 [some (.ref 37), some (.ref 35), some (.int S), some (.int (nI v)), some (.int (nI i)), none] [] M Post := by
  intro d
  induction d using Nat.strongRecOn with
  | ind d ih =>
    intro i M hd hj j1 j2
    refine blk 3 [(.iload 4, 0, 0, 0), (.iconst 5, 0, 0, (nI 5))] [] (by decide +kernel) rfl (pc' := 96) (ls' := [some (.ref 37), some (.ref 35), some (.int S), some (.int (nI v)), some (.int (nI i)), none]) (st' := [.int (nI 5), .int (nI i)]) (M' := M) rfl ⟨trivial, trivial, trivial⟩ ?_
    refine g_icmp_ge (off := 20) (tgt := 116) (by decide +kernel) (by decide) (fun c1 => ?_) (fun c1 => ?_)
    · have nc1 : 5 ≤ i := (nI_leI (by omega) (by omega)).mp (by simpa only [nI_add, pk_mul, nI_s1, n0_lit] using c1)
      have e : i = 5 := by omega
      subst e
      exact g_return (by decide +kernel) rfl (hp M j1 j2)
    · have nc1 : i < 5 := by
        have z : ¬ nI 5 ≤ nI i := by simpa only [nI_add, pk_mul, nI_s1, n0_lit] using c1
        rw [nI_leI (by omega) (by omega)] at z
        omega
      refine blk 3 [(.aload_n 0, 0, 0, 0), (.getfield 11, 3, 0, 0), (.iload 4, 0, 0, 0), (.aaload, 0, 0, 0), (.iload_n 3, 0, 0, 0), (.putfield 20, 2, 1, 0), (.iinc 4 1, 0, 0, (nI 1)), (.goto (-20), 93, 0, 0)] [i] (by decide +kernel) rfl (pc' := 93) (ls' := [some (.ref 37), some (.ref 35), some (.int S), some (.int (nI v)), some (.int (nI i + nI 1)), none]) (st' := []) (M' := stm M (61 + i) 1 (nI v)) rfl ⟨trivial, rfl, trivial, ⟨rfl, (by show _ < 5; omega)⟩, trivial, (kd61 (by omega)), trivial, trivial, trivial⟩ ?_
      refine G.sub (ls' := [some (.ref 37), some (.ref 35), some (.int S), some (.int (nI v)), some (.int (nI (i + 1))), none]) ?_ ⟨rfl, rfl, rfl, rfl, congrArg (fun z => some (Value.int z)) (by simp only [nI_add, nI_s1]), trivial⟩
      refine ih (d - 1) (by omega) (i + 1) _ (by omega) (by omega) (fun z hz => ?_) (fun a h1 => ?_)
      · rw [stm_ne (hz i (by omega))]; exact j1 z (fun a h => hz a (by omega))
      · by_cases e : a = i
        · subst e; rw [stm_self]
        · rw [stm_ne (by omega)]; exact j2 a (by omega)
theorem l_cpw37 {M0 : Mem} {S : Int32} {Wd0 : Nat} (hw : Wd0 ≤ 60) (hW0 : M0 51 1 = nI Wd0) : ∀ d k M, d = Wd0 - k → k ≤ Wd0 → (∀ z, (∀ a, a < 5 → ¬ hb S a = 0 → z ≠ 61 + a + 5) → M z = M0 z) → cpwI M0 M 61 51 S k → G mX3_copyWithout 5 [some (.ref 37), some (.ref 35), some (.int S), some (.int (nI (bcnt (keepB M0 51 S) k))), some (.int (nI k)), none] [] M (cpwP M0 61 51 S Wd0) := by
  intro d
  induction d using Nat.strongRecOn with
  | ind d ih =>
    intro k M hd hj j1 j2
    have hW : M 51 1 = nI Wd0 := by rw [j1 51 (fun a _ _ => by omega)]; exact hW0
    refine blk 3 [(.iload 4, 0, 0, 0), (.aload_n 1, 0, 0, 0), (.getfield 11, 3, 0, 0), (.iconst 0, 0, 0, (nI 0)), (.aaload, 0, 0, 0), (.getfield 20, 2, 1, 0)] [0] (by decide +kernel) rfl (pc' := 16) (ls' := [some (.ref 37), some (.ref 35), some (.int S), some (.int (nI (bcnt (keepB M0 51 S) k))), some (.int (nI k)), none]) (st' := [.int (M 51 1), .int (nI k)]) (M' := M) rfl ⟨trivial, trivial, rfl, trivial, ⟨rfl, (by decide)⟩, rfl, trivial⟩ ?_
    refine g_icmp_ge (off := 74) (tgt := 90) (by decide +kernel) (by decide) (fun c1 => ?_) (fun c1 => ?_)
    · have nc1 : Wd0 ≤ k := (nI_leI (by omega) (by omega)).mp (by simpa only [hW, nI_add, pk_mul, nI_s1, n0_lit] using c1)
      refine blk 3 [(.iconst 0, 0, 0, (nI 0)), (.istore 4, 0, 0, 0)] [] (by decide +kernel) rfl (pc' := 93) (ls' := [some (.ref 37), some (.ref 35), some (.int S), some (.int (nI (bcnt (keepB M0 51 S) k))), some (.int (nI 0)), none]) (st' := []) (M' := M) rfl ⟨trivial, trivial, trivial⟩ ?_
      have e : k = Wd0 := by omega
      subst e
      refine l_cpw337 (M1 := M) (fun N h1 h2 => ⟨rfl, h2, fun a b1 b2 j b3 b4 => ?_, fun z hz => ?_⟩) _ 0 M rfl (by omega) (fun z _ => rfl) (fun a h => absurd h (by omega))
      · rw [h1 _ (fun c _ => by omega)]; exact j2 a b1 b2 j b3 b4
      · rw [h1 z (fun a h => (hz a h).1)]; exact j1 z (fun a h _ => (hz a h).2)
    · have nc1 : k < Wd0 := by
        have z : ¬ nI Wd0 ≤ nI k := by simpa only [hW, nI_add, pk_mul, nI_s1, n0_lit] using c1
        rw [nI_leI (by omega) (by omega)] at z
        omega
      refine blk 3 [(.aload_n 1, 0, 0, 0), (.iload 4, 0, 0, 0), (.iload_n 2, 0, 0, 0)] [] (by decide +kernel) rfl (pc' := 23) (ls' := [some (.ref 37), some (.ref 35), some (.int S), some (.int (nI (bcnt (keepB M0 51 S) k))), some (.int (nI k)), none]) (st' := [.int S, .int (nI k), .ref 35]) (M' := M) rfl ⟨trivial, trivial, trivial, trivial⟩ ?_
      refine g_callV (s_has35 M S (k := k) (by omega)) ok_X3_copyWithout_X3_hasLetter (by decide +kernel) rfl (c := 3) rfl (by decide) rfl (Nat.le_of_ble_eq_true rfl) (fun r M' h => ?_) rfl
      obtain ⟨hr, hM⟩ := h
      rw [hr, hM]
      show G _ 26 [some (.ref 37), some (.ref 35), some (.int S), some (.int (nI (bcnt (keepB M0 51 S) k))), some (.int (nI k)), none] [.int (bI (anyB (hasF M 51 S k) 5))] M _
      rw [show anyB (hasF M 51 S k) 5 = keepB M0 51 S k from anyB_congr (fun i hi => by simp only [hasF]; rw [j1 (51 + i + 5) (fun a _ _ => by omega)])]
      refine g_if_ne (off := 6) (tgt := 32) (by decide +kernel) (by decide) (fun c2 => ?_) (fun c2 => ?_)
      · refine blk 3 [(.iconst 0, 0, 0, (nI 0)), (.istore 5, 0, 0, 0)] [] (by decide +kernel) rfl (pc' := 35) (ls' := [some (.ref 37), some (.ref 35), some (.int S), some (.int (nI (bcnt (keepB M0 51 S) k))), some (.int (nI k)), some (.int (nI 0))]) (st' := []) (M' := M) rfl ⟨trivial, trivial, trivial⟩ ?_
        refine l_cpw237 (by omega) (fun N h1 h2 => ?_) _ 0 M rfl (by omega) j1 j2 (fun a h => absurd h (by omega))
        have ep : bcnt (keepB M0 51 S) (k + 1) = bcnt (keepB M0 51 S) k + 1 := by rw [bcnt, if_pos (bI_ne c2)]
        rw [← ep]
        refine blk 3 [(.iinc 4 1, 0, 0, (nI 1)), (.goto (-82), 5, 0, 0)] [] (by decide +kernel) rfl (pc' := 5) (ls' := [some (.ref 37), some (.ref 35), some (.int S), some (.int (nI (bcnt (keepB M0 51 S) (k + 1)))), some (.int (nI k + nI 1)), none]) (st' := []) (M' := N) rfl ⟨trivial, trivial, trivial⟩ ?_
        refine G.sub (ls' := [some (.ref 37), some (.ref 35), some (.int S), some (.int (nI (bcnt (keepB M0 51 S) (k + 1)))), some (.int (nI (k + 1))), none]) ?_ ⟨rfl, rfl, rfl, rfl, congrArg (fun z => some (Value.int z)) (nI_add _ _), trivial⟩
        exact ih (d - 1) (by omega) (k + 1) N (by omega) (by omega) h1 h2
      · refine blk 3 [(.goto (55), 84, 0, 0), (.iinc 4 1, 0, 0, (nI 1)), (.goto (-82), 5, 0, 0)] [] (by decide +kernel) rfl (pc' := 5) (ls' := [some (.ref 37), some (.ref 35), some (.int S), some (.int (nI (bcnt (keepB M0 51 S) k))), some (.int (nI k + nI 1)), none]) (st' := []) (M' := M) rfl ⟨trivial, trivial, trivial, trivial⟩ ?_
        have ep : bcnt (keepB M0 51 S) (k + 1) = bcnt (keepB M0 51 S) k := by rw [bcnt, if_neg (by rw [bI_eq c2]; decide)]; omega
        refine G.sub (ls' := [some (.ref 37), some (.ref 35), some (.int S), some (.int (nI (bcnt (keepB M0 51 S) (k + 1)))), some (.int (nI (k + 1))), none]) ?_ ⟨rfl, rfl, rfl, congrArg (fun z => some (Value.int z)) (by rw [ep]), congrArg (fun z => some (Value.int z)) (by simp only [nI_add, nI_s1]), trivial⟩
        refine ih (d - 1) (by omega) (k + 1) M (by omega) (by omega) j1 (fun a h1 h2 j h3 h4 => ?_)
        by_cases e : j = k
        · subst e; rw [bI_eq c2] at h4; cases h4
        · exact j2 a h1 h2 j (by omega) h4
theorem s_cpw37 (M : Mem) (S : Int32) {Wd0 : Nat} (hw : Wd0 ≤ 60) (hW : M 51 1 = nI Wd0) : Spec mX3_copyWithout [.ref 37, .ref 35, .int S] M (cpwP M 61 51 S Wd0) := by
  refine Spec.of (by decide) (by simp [Value.category]) (Nat.le_of_ble_eq_true rfl) ?_
  refine blk 3 [(.iconst 0, 0, 0, (nI 0)), (.istore_n 3, 0, 0, 0), (.iconst 0, 0, 0, (nI 0)), (.istore 4, 0, 0, 0)] [] (by decide +kernel) rfl (pc' := 5) (ls' := [some (.ref 37), some (.ref 35), some (.int S), some (.int (nI 0)), some (.int (nI 0)), none]) (st' := []) (M' := M) rfl ⟨trivial, trivial, trivial, trivial, trivial⟩ ?_
  exact l_cpw37 hw hW _ 0 M rfl (by omega) (fun z _ => rfl) (fun a _ _ j h => absurd h (by omega))
end
section
/-! Arrays.fill; Side.readRow, Side.read -/
abbrev mJ7_fill : MI := (yJ7_fill_53178, cJ7_fill_53178, 4, none, 0, 0)
theorem g_alen {q : MI} {pc : Nat} {ls : List (Option Value)} {st : List Value} {M : Mem} {Post : Option Value → Mem → Prop} {t : Nat} (hd : decode q.cc pc = .ok (.arraylength, 1)) (ht : t < 96) (h8 : kd t = 8) (kk : G q (pc + 1) ls (.int (nI (al t)) :: st) M Post) : G q pc ls (.ref t :: st) M Post := by
  intro D κ ad p l e s m args below meth cd H locs la C hW hS hla
  have hcell := hW.1 t ht
  unfold cellAt at hcell
  rw [if_pos h8] at hcell
  exact W.alen C.1 C.2.1 hcell ((C.2.2.2.2.2.2.2.1.2 0 _ rfl).1 (al t) _) (by rw [arrV_size]; rfl) rfl rfl hd (kk D κ ad p l e s m args below meth cd H locs la C hW hS hla)
def fillP (M : Mem) (t : Nat) (v : Int32) : Option Value → Mem → Prop := fun r N => r = none ∧ (∀ k, k < al t → N t k = v) ∧ ∀ z, z ≠ t → N z = M z
theorem l_fill {M0 : Mem} {t : Nat} {v : Int32} (ht : t < 96) (h8 : kd t = 8) : ∀ d i M, d = al t - i → i ≤ al t → (∀ k, k < i → M t k = v) → (∀ z, z ≠ t → M z = M0 z) → G mJ7_fill 5 [some (.ref t), some (.int v), some (.int (nI i)), some (.int (nI (al t)))] [] M (fillP M0 t v) := by
  have hb := @al_big t
  intro d
  induction d using Nat.strongRecOn with
  | ind d ih =>
    intro i M hd hi j1 j2
    refine g_iload_n (n := 2) (by decide +kernel) rfl ?_
    refine g_iload_n (n := 3) (by decide +kernel) rfl ?_
    refine g_icmp_ge (off := 13) (tgt := 20) (by decide +kernel) (by decide) (fun c => ?_) (fun c => ?_)
    · have e : i = al t := by
        have := (nI_leI (by omega) (by omega)).mp c
        omega
      subst e
      exact g_return (by decide +kernel) rfl ⟨rfl, j1, j2⟩
    · have hlt : i < al t := by
        rw [nI_leI (by omega) (by omega)] at c
        omega
      refine g_aload_n (n := 0) (by decide +kernel) rfl ?_
      refine g_iload_n (n := 2) (by decide +kernel) rfl ?_
      refine g_iload_n (n := 1) (by decide +kernel) rfl ?_
      refine g_iastore (by decide +kernel) (in_al hlt) ht ?_
      rw [cl_al hlt]
      refine g_iinc (n := 2) (d := 1) (v := nI 1) (by decide +kernel) rfl (by decide) (by decide) ?_
      refine g_goto (off := -12) (tgt := 5) (by decide +kernel) (by decide) ?_
      refine G.sub (ls' := [some (.ref t), some (.int v), some (.int (nI (i + 1))), some (.int (nI (al t)))]) ?_ ⟨rfl, rfl, congrArg (fun z => some (Value.int z)) (nI_add _ _), rfl, trivial⟩
      refine ih (d - 1) (by omega) (i + 1) _ (by omega) (by omega) (fun k hk => ?_) (fun z hz => ?_)
      · by_cases e : k = i
        · subst e; rw [stm_self]
        · rw [stm_off e]; exact j1 k (by omega)
      · rw [stm_ne hz]; exact j2 z hz
theorem s_fill (M : Mem) {t : Nat} (v : Int32) (ht : t < 96) (h8 : kd t = 8) : Spec mJ7_fill [.ref t, .int v] M (fillP M t v) := by
  refine Spec.of (by decide) (by simp [Value.category]) (Nat.le_of_ble_eq_true rfl) ?_
  refine g_iconst (n := 0) (v := nI 0) (by decide +kernel) (by decide) ?_
  refine g_istore_n (n := 2) (by decide +kernel) (by decide) ?_
  refine g_aload_n (n := 0) (by decide +kernel) rfl ?_
  refine g_alen (by decide +kernel) ht h8 ?_
  refine g_istore_n (n := 3) (by decide +kernel) (by decide) ?_
  exact l_fill ht h8 _ 0 M rfl (by omega) (fun k h => absurd h (by omega)) (fun z _ => rfl)
theorem ok_fill : okS mX4_read mJ7_fill 18 2 := ⟨TB_in (by decide +kernel) (by decide +kernel), TB_in (by decide +kernel) (by decide +kernel), TB_in (by decide +kernel) (by decide +kernel), TB_in (by decide +kernel) (by decide +kernel), by decide +kernel, by decide +kernel, by decide +kernel⟩
/-- what reading a row of weight f into a side does, in its first m columns -/
def rrJ (M N : Mem) (s t : Nat) (f : Int32) (m : Nat) : Prop := (∀ k x, k < m → x < 4 → N (s + 1) (k * 4 + x) = M (s + 1) (k * 4 + x) + if M (t + 5) k = nI x then f else 0) ∧ (∀ k, k < m → N (s + 2) k = M (s + 2) k + if M (t + 5) k = -1 then 0 else f)
def rrK (M N : Mem) (s : Nat) (m : Nat) : Prop := (∀ k x, m ≤ k → x < 4 → N (s + 1) (k * 4 + x) = M (s + 1) (k * 4 + x)) ∧ (∀ k, m ≤ k → N (s + 2) k = M (s + 2) k)
theorem nI_nm1 {x : Nat} (h : x < 2 ^ 31) : ¬ (-1 : Int32) = nI x := fun z => by
  have h1 := congrArg Int32.toInt z
  rw [nI_toInt h] at h1
  have h9 : (-1 : Int32).toInt = -1 := by decide
  omega
theorem ixr {j a : Nat} {x : Int32} (h : x = nI a) : nI j * nI 4 + x = nI (j * 4 + a) := by rw [h, pk_mul, nI_add]
theorem l_rrow5 {M0 : Mem} {t w : Nat} {f A : Int32} {Post : Option Value → Mem → Prop} (hk : kd t = 2) (ht : 20 < t) (hw : w ≤ 48) (hl : w ≤ al (t + 5)) (hc0 : ∀ k, k < w → okc (M0 (t + 5) k)) (hp : ∀ M, M 5 2 = A → M 5 3 = nI w → rrJ M0 M 5 t f w → (∀ z, (z < 5 ∨ 7 < z) → z ≠ 5 → M z = M0 z) → Post none M) : ∀ d j M, d = w - j → j ≤ w → M 5 2 = A → M 5 3 = nI w → rrJ M0 M 5 t f j → rrK M0 M 5 j → (∀ z, (z < 5 ∨ 7 < z) → z ≠ 5 → M z = M0 z) → G mX4_readRow 20 [some (.ref 5), some (.ref t), some (.int f), some (.int (nI j))] [] M Post := by
  intro d
  induction d using Nat.strongRecOn with
  | ind d ih =>
    intro j M hd hj i1 i2 i3b i3 i4
    have hc : ∀ k, k < w → okc (M (t + 5) k) := fun k h => by rw [i4 (t + 5) (by omega) (by omega)]; exact hc0 k h
    refine blk 4 [(.iload_n 3, 0, 0, 0), (.aload_n 0, 0, 0, 0), (.getfield 47, 4, 3, 0)] [] (by decide +kernel) rfl (pc' := 25) (ls' := [some (.ref 5), some (.ref t), some (.int f), some (.int (nI j))]) (st' := [.int (M 5 3), .int (nI j)]) (M' := M) rfl ⟨trivial, trivial, rfl, trivial⟩ ?_
    refine g_icmp_ge (off := 48) (tgt := 73) (by decide +kernel) (by decide) (fun c1 => ?_) (fun c1 => ?_)
    · have nc1 : w ≤ j := (nI_leI (by omega) (by omega)).mp (by simpa only [i2, nI_add, pk_mul, nI_s1, n0_lit] using c1)
      have e : j = w := by omega
      subst e
      exact g_return (by decide +kernel) rfl (hp M i1 i2 i3b i4)
    · have nc1 : j < w := by
        have z : ¬ nI w ≤ nI j := by simpa only [i2, nI_add, pk_mul, nI_s1, n0_lit] using c1
        rw [nI_leI (by omega) (by omega)] at z
        omega
      refine blk 4 [(.aload_n 1, 0, 0, 0), (.getfield 48, 2, 0, 0), (.iload_n 3, 0, 0, 0), (.iaload, 0, 0, 0), (.iconst (-1), 0, 0, (-1))] [j] (by decide +kernel) rfl (pc' := 35) (ls' := [some (.ref 5), some (.ref t), some (.int f), some (.int (nI j))]) (st' := [.int (-1), .int (M (t + 5) j)]) (M' := M) rfl ⟨trivial, (by assumption), trivial, ⟨rfl, (by omega)⟩, trivial, trivial⟩ ?_
      refine g_icmp_eq (off := 32) (tgt := 67) (by decide +kernel) (by decide) (fun c2 => ?_) (fun c2 => ?_)
      · refine blk 4 [(.iinc 3 1, 0, 0, (nI 1)), (.goto (-50), 20, 0, 0)] [] (by decide +kernel) rfl (pc' := 20) (ls' := [some (.ref 5), some (.ref t), some (.int f), some (.int (nI j + nI 1))]) (st' := []) (M' := M) rfl ⟨trivial, trivial, trivial⟩ ?_
        have et : M (t + 5) = M0 (t + 5) := i4 _ (by omega) (by omega)
        refine G.sub (ls' := [some (.ref 5), some (.ref t), some (.int f), some (.int (nI (j + 1)))]) ?_ ⟨rfl, rfl, rfl, congrArg (fun z => some (Value.int z)) (by simp only [nI_add, nI_s1]), trivial⟩
        refine ih (d - 1) (by omega) (j + 1) _ (by omega) (by omega) i1 i2 ⟨fun a x ha hx => ?_, fun a ha => ?_⟩ ⟨fun a x ha hx => i3.1 a x (by omega) hx, fun a ha => i3.2 a (by omega)⟩ i4
        · by_cases e : a = j
          · subst e; rw [i3.1 a x (Nat.le_refl a) hx, ← et, if_neg (by rw [c2]; exact nI_nm1 (by omega)), Int32.add_zero]
          · exact i3b.1 a x (by omega) hx
        · by_cases e : a = j
          · subst e; rw [i3.2 a (Nat.le_refl a), ← et, if_pos c2, Int32.add_zero]
          · exact i3b.2 a (by omega)
      · have ex := okc_cd (hc j (by omega)) c2
        refine blk 4 [(.aload_n 0, 0, 0, 0), (.getfield 11, 4, 0, 0), (.iload_n 3, 0, 0, 0), (.iconst 4, 0, 0, (nI 4)), (.imul, 0, 0, 0), (.aload_n 1, 0, 0, 0), (.getfield 48, 2, 0, 0), (.iload_n 3, 0, 0, 0), (.iaload, 0, 0, 0), (.iadd, 0, 0, 0), (.dup2, 0, 0, 0), (.iaload, 0, 0, 0), (.iload_n 2, 0, 0, 0), (.iadd, 0, 0, 0), (.iastore, 0, 0, 0), (.aload_n 0, 0, 0, 0), (.getfield 15, 4, 1, 0), (.iload_n 3, 0, 0, 0), (.dup2, 0, 0, 0), (.iaload, 0, 0, 0), (.iload_n 2, 0, 0, 0), (.iadd, 0, 0, 0), (.iastore, 0, 0, 0), (.iinc 3 1, 0, 0, (nI 1)), (.goto (-50), 20, 0, 0)] [j, j * 4 + cd (M (t + 5) j), j * 4 + cd (M (t + 5) j), j, j] (by decide +kernel) rfl (pc' := 20) (ls' := [some (.ref 5), some (.ref t), some (.int f), some (.int (nI j + nI 1))]) (st' := []) (M' := stm (stm M 6 (j * 4 + cd (M (t + 5) j)) ((M 6 (j * 4 + cd (M (t + 5) j))) + f)) 7 j ((M 7 j) + f)) rfl ⟨trivial, rfl, trivial, trivial, trivial, trivial, (by assumption), trivial, ⟨rfl, (by omega)⟩, trivial, ⟨rfl, rfl⟩, ⟨(ixr ex.1), (by show _ < 192; omega)⟩, trivial, trivial, ⟨(ixr ex.1), (by show _ < 192; omega), by decide⟩, trivial, rfl, trivial, ⟨rfl, rfl⟩, ⟨rfl, (by show _ < 48; omega)⟩, trivial, trivial, ⟨rfl, (by show _ < 48; omega), by decide⟩, trivial, trivial, trivial⟩ ?_
        have et : M (t + 5) = M0 (t + 5) := i4 _ (by omega) (by omega)
        refine G.sub (ls' := [some (.ref 5), some (.ref t), some (.int f), some (.int (nI (j + 1)))]) ?_ ⟨rfl, rfl, rfl, congrArg (fun z => some (Value.int z)) (by simp only [nI_add, nI_s1]), trivial⟩
        refine ih (d - 1) (by omega) (j + 1) _ (by omega) (by omega) i1 i2 ⟨fun a x ha hx => ?_, fun a ha => ?_⟩ ⟨fun a x ha hx => ?_, fun a ha => ?_⟩ (fun z h1 h2 => ?_)
        · rw [stm_ne (by omega)]
          by_cases e : a * 4 + x = j * 4 + cd (M (t + 5) j)
          · rw [e, stm_self, ← e]
            have e1 : a = j := by omega
            have e2 : x = cd (M (t + 5) j) := by omega
            subst e1
            rw [i3.1 a x (Nat.le_refl a) hx, ← et, if_pos (by rw [e2]; exact ex.1)]
          · rw [stm_off e]
            by_cases ea : a = j
            · subst ea
              rw [i3.1 a x (Nat.le_refl a) hx, ← et, if_neg (fun z => e (by rw [ex.1] at z; have := (nI_eq (by omega) (by omega)).mp z; omega)), Int32.add_zero]
            · exact i3b.1 a x (by omega) hx
        · by_cases e : a = j
          · subst e; rw [stm_self, show M 7 a = M0 (5 + 2) a from i3.2 a (Nat.le_refl a), ← et, if_neg c2]
          · rw [stm_off e, stm_ne (by omega)]; exact i3b.2 a (by omega)
        · rw [stm_ne (by omega), stm_off (by omega)]; exact i3.1 a x (by omega) hx
        · rw [stm_off (by omega), stm_ne (by omega)]; exact i3.2 a (by omega)
        · rw [stm_ne (by omega), stm_ne (by omega)]; exact i4 z h1 h2
def rrowP (M : Mem) (s t w : Nat) (f : Int32) : Option Value → Mem → Prop := fun r N => r = none ∧ N s 2 = M s 2 + f ∧ N s 3 = nI w ∧ rrJ M N s t f w ∧ ∀ z, (z < s ∨ s + 2 < z) → z ≠ s → N z = M z
theorem s_rrow5 (M : Mem) {t w : Nat} (f : Int32) (hk : kd t = 2) (ht : 20 < t) (hw : w ≤ 48) (hl : w ≤ al (t + 5)) (hwd : M t 1 = nI w) (hc : ∀ k, k < w → okc (M (t + 5) k)) : Spec mX4_readRow [.ref 5, .ref t, .int f] M (rrowP M 5 t w f) := by
  refine Spec.of (by decide) (by simp [Value.category]) (Nat.le_of_ble_eq_true rfl) ?_
  refine blk 4 [(.aload_n 0, 0, 0, 0), (.dup, 0, 0, 0), (.getfield 24, 4, 2, 0), (.iload_n 2, 0, 0, 0), (.iadd, 0, 0, 0), (.putfield 24, 4, 2, 0), (.aload_n 0, 0, 0, 0), (.aload_n 1, 0, 0, 0), (.getfield 42, 2, 1, 0), (.putfield 47, 4, 3, 0), (.iconst 0, 0, 0, (nI 0)), (.istore_n 3, 0, 0, 0)] [] (by decide +kernel) rfl (pc' := 20) (ls' := [some (.ref 5), some (.ref t), some (.int f), some (.int (nI 0))]) (st' := []) (M' := stm (stm M 5 2 ((M 5 2) + f)) 5 3 ((stm M 5 2 ((M 5 2) + f)) t 1)) rfl ⟨trivial, rfl, rfl, trivial, trivial, rfl, trivial, trivial, (by assumption), rfl, trivial, trivial, trivial⟩ ?_
  rw [show stm M 5 2 (M 5 2 + f) t 1 = M t 1 by rw [stm_ne (by omega)]]
  have e2 : (stm (stm M 5 2 (M 5 2 + f)) 5 3 (M t 1)) 5 2 = M 5 2 + f := by rw [stm_off (by decide), stm_self]
  have e0 : ∀ z, z ≠ 5 → (stm (stm M 5 2 (M 5 2 + f)) 5 3 (M t 1)) z = M z := fun z hz => by rw [stm_ne hz, stm_ne hz]
  refine l_rrow5 (M0 := M) hk ht hw hl hc (fun N h1 h2 h3 h4 => ⟨rfl, h1, h2, h3, h4⟩) _ 0 _ rfl (by omega) e2 (by rw [stm_self]; exact hwd) ⟨fun k x h => absurd h (by omega), fun k h => absurd h (by omega)⟩ ⟨fun k x _ _ => by rw [e0 _ (by omega)], fun k _ => by rw [e0 _ (by omega)]⟩ (fun z _ h => e0 z h)
/-- a group's weights: of all its rows; of those with letter x in column k; of those with a letter there -/
def whF (M : Mem) (S : Int32) (v : Nat) : Nat → Int32 := fun i => if hb S i = 0 then 0 else M v i
def letF (M : Mem) (B : Nat) (S : Int32) (v k x : Nat) : Nat → Int32 := fun i => if ¬ hb S i = 0 ∧ M (B + i + 5) k = nI x then M v i else 0
def preF (M : Mem) (B : Nat) (S : Int32) (v k : Nat) : Nat → Int32 := fun i => if ¬ hb S i = 0 ∧ ¬ M (B + i + 5) k = -1 then M v i else 0
def readP (M : Mem) (s B : Nat) (S : Int32) (v w : Nat) : Option Value → Mem → Prop := fun r N => r = none ∧ N s 2 = psum (whF M S v) 5 ∧ N s 3 = nI w ∧ (∀ k x, k < w → x < 4 → N (s + 1) (k * 4 + x) = psum (letF M B S v k x) 5) ∧ (∀ k, k < w → N (s + 2) k = psum (preF M B S v k) 5) ∧ ∀ z, (z < s ∨ s + 2 < z) → z ≠ s → N z = M z
theorem l_read5_35 {M0 : Mem} {S : Int32} {v w : Nat} (hv : al v = 5) (hv2 : 10 < v) (hw : w ≤ 48) (hW : ∀ a, a < 5 → ¬ hb S a = 0 → M0 (51 + a) 1 = nI w) (hc : ∀ a k, a < 5 → ¬ hb S a = 0 → k < w → okc (M0 (51 + a + 5) k)) (hS : ∃ a, a < 5 ∧ ¬ hb S a = 0) : ∀ d i M, d = 5 - i → i ≤ 5 → M 5 2 = psum (whF M0 S v) i → ((∃ a, a < i ∧ ¬ hb S a = 0) → M 5 3 = nI w) → ((∀ k x, k < w → x < 4 → M (5 + 1) (k * 4 + x) = psum (letF M0 51 S v k x) i) ∧ (∀ k, k < w → M (5 + 2) k = psum (preF M0 51 S v k) i)) → (∀ z, (z < 5 ∨ 5 + 2 < z) → z ≠ 5 → M z = M0 z) → G mX4_read 24 [some (.ref 5), some (.ref 35), some (.int S), some (.ref v), some (.int (nI i))] [] M (readP M0 5 51 S v w) := by
  intro d
  induction d using Nat.strongRecOn with
  | ind d ih =>
    intro i M hd hj i1 i2 i3 i5
    refine blk 4 [(.iload 4, 0, 0, 0), (.iconst 5, 0, 0, (nI 5))] [] (by decide +kernel) rfl (pc' := 27) (ls' := [some (.ref 5), some (.ref 35), some (.int S), some (.ref v), some (.int (nI i))]) (st' := [.int (nI 5), .int (nI i)]) (M' := M) rfl ⟨trivial, trivial, trivial⟩ ?_
    refine g_icmp_ge (off := 33) (tgt := 60) (by decide +kernel) (by decide) (fun c1 => ?_) (fun c1 => ?_)
    · have nc1 : 5 ≤ i := (nI_leI (by omega) (by omega)).mp (by simpa only [nI_add, pk_mul, nI_s1, n0_lit] using c1)
      have e : i = 5 := by omega
      subst e
      exact g_return (by decide +kernel) rfl ⟨rfl, i1, i2 hS, i3.1, i3.2, i5⟩
    · have nc1 : i < 5 := by
        have z : ¬ nI 5 ≤ nI i := by simpa only [nI_add, pk_mul, nI_s1, n0_lit] using c1
        rw [nI_leI (by omega) (by omega)] at z
        omega
      refine blk 4 [(.iload_n 2, 0, 0, 0), (.iload 4, 0, 0, 0)] [] (by decide +kernel) rfl (pc' := 33) (ls' := [some (.ref 5), some (.ref 35), some (.int S), some (.ref v), some (.int (nI i))]) (st' := [.int (nI i), .int S]) (M' := M) rfl ⟨trivial, trivial, trivial⟩ ?_
      refine g_callN (index := 28) (s_holds _ S i) rfl (by decide) ⟨ok_X6_holds.1, ok_X6_holds.2.1, ok_X6_holds.2.2.1, ok_X6_holds.2.2.2, by decide +kernel, by decide +kernel⟩ (by decide +kernel) rfl (Nat.le_of_ble_eq_true rfl) (fun r M' h => ?_) rfl
      obtain ⟨hr, hM⟩ := h
      rw [hr, hM]
      show G _ 36 [some (.ref 5), some (.ref 35), some (.int S), some (.ref v), some (.int (nI i))] [.int (hb S i)] M _
      refine g_if_eq (off := 18) (tgt := 54) (by decide +kernel) (by decide) (fun c2 => ?_) (fun c2 => ?_)
      · refine blk 4 [(.iinc 4 1, 0, 0, (nI 1)), (.goto (-33), 24, 0, 0)] [] (by decide +kernel) rfl (pc' := 24) (ls' := [some (.ref 5), some (.ref 35), some (.int S), some (.ref v), some (.int (nI i + nI 1))]) (st' := []) (M' := M) rfl ⟨trivial, trivial, trivial⟩ ?_
        refine G.sub (ls' := [some (.ref 5), some (.ref 35), some (.int S), some (.ref v), some (.int (nI (i + 1)))]) ?_ ⟨rfl, rfl, rfl, rfl, congrArg (fun z => some (Value.int z)) (by simp only [nI_add, nI_s1]), trivial⟩
        refine ih (d - 1) (by omega) (i + 1) M (by omega) (by omega) ?_ (fun h => i2 ?_) ⟨fun k x hk hx => ?_, fun k hk => ?_⟩ i5
        · rw [psum, show whF M0 S v i = 0 by simp only [whF]; rw [if_pos c2], Int32.add_zero]; exact i1
        · obtain ⟨a, h1, h2⟩ := h
          exact ⟨a, by rcases Nat.lt_or_ge a i with z | z; exact z; exact absurd (show a = i by omega ▸ c2) (by rw [show a = i by omega] at h2; exact absurd c2 h2), h2⟩
        · rw [psum, show letF M0 51 S v k x i = 0 by simp only [letF]; rw [if_neg (fun z => z.1 c2)], Int32.add_zero]; exact i3.1 k x hk hx
        · rw [psum, show preF M0 51 S v k i = 0 by simp only [preF]; rw [if_neg (fun z => z.1 c2)], Int32.add_zero]; exact i3.2 k hk
      · refine blk 4 [(.aload_n 0, 0, 0, 0), (.aload_n 1, 0, 0, 0), (.getfield 32, 3, 0, 0), (.iload 4, 0, 0, 0), (.aaload, 0, 0, 0), (.aload_n 3, 0, 0, 0), (.iload 4, 0, 0, 0), (.iaload, 0, 0, 0)] [i, i] (by decide +kernel) rfl (pc' := 51) (ls' := [some (.ref 5), some (.ref 35), some (.int S), some (.ref v), some (.int (nI i))]) (st' := [.int (M v i), .ref (51 + i), .ref 5]) (M' := M) rfl ⟨trivial, trivial, rfl, trivial, ⟨rfl, (by show _ < 5; omega)⟩, trivial, trivial, ⟨rfl, (by rw [hv]; omega)⟩, trivial⟩ ?_
        have eB : M (51 + i) = M0 (51 + i) := i5 _ (by omega) (by omega)
        have eC : M (51 + i + 5) = M0 (51 + i + 5) := i5 _ (by omega) (by omega)
        refine g_callV (s_rrow5 M (t := 51 + i) (w := w) (M v i) (kd51 (by omega)) (by omega) hw (by rw [al56 (by omega)]; omega) (by rw [eB]; exact hW i (by omega) c2) (fun k h => by rw [eC]; exact hc i k (by omega) c2 h)) ok_X4_read_X4_readRow (by decide +kernel) rfl (c := 4) rfl (by decide) rfl (Nat.le_of_ble_eq_true rfl) (fun r N h => ?_) rfl
        obtain ⟨hr, q1, q2, q3, q4⟩ := h
        rw [hr]
        show G _ 54 [some (.ref 5), some (.ref 35), some (.int S), some (.ref v), some (.int (nI i))] [] N _
        refine blk 4 [(.iinc 4 1, 0, 0, (nI 1)), (.goto (-33), 24, 0, 0)] [] (by decide +kernel) rfl (pc' := 24) (ls' := [some (.ref 5), some (.ref 35), some (.int S), some (.ref v), some (.int (nI i + nI 1))]) (st' := []) (M' := N) rfl ⟨trivial, trivial, trivial⟩ ?_
        refine G.sub (ls' := [some (.ref 5), some (.ref 35), some (.int S), some (.ref v), some (.int (nI (i + 1)))]) ?_ ⟨rfl, rfl, rfl, rfl, congrArg (fun z => some (Value.int z)) (by simp only [nI_add, nI_s1]), trivial⟩
        refine ih (d - 1) (by omega) (i + 1) N (by omega) (by omega) ?_ (fun _ => q2) ⟨fun k x hk hx => ?_, fun k hk => ?_⟩ (fun z h1 h2 => ?_)
        · rw [q1, i1, psum, show whF M0 S v i = M v i by simp only [whF]; rw [if_neg c2, i5 v (by omega) (by omega)]]
        · rw [q3.1 k x hk hx, i3.1 k x hk hx, psum, eC]; congr 1; simp only [letF]; rw [← i5 v (by omega) (by omega)]; by_cases e : M0 (51 + i + 5) k = nI x
          · rw [if_pos e, if_pos ⟨c2, e⟩]
          · rw [if_neg e, if_neg (fun z => e z.2)]
        · rw [q3.2 k hk, i3.2 k hk, psum, eC]; congr 1; simp only [preF]; rw [← i5 v (by omega) (by omega)]; by_cases e : M0 (51 + i + 5) k = -1
          · rw [if_pos e, if_neg (fun z => z.2 e)]
          · rw [if_neg e, if_pos ⟨c2, e⟩]
        · rw [q4 z h1 h2]; exact i5 z h1 h2
theorem s_read5_35 (M : Mem) (S : Int32) {v w : Nat} (hv : al v = 5) (hv2 : 10 < v) (hw : w ≤ 48) (hW : ∀ a, a < 5 → ¬ hb S a = 0 → M (51 + a) 1 = nI w) (hc : ∀ a k, a < 5 → ¬ hb S a = 0 → k < w → okc (M (51 + a + 5) k)) (hS : ∃ a, a < 5 ∧ ¬ hb S a = 0) : Spec mX4_read [.ref 5, .ref 35, .int S, .ref v] M (readP M 5 51 S v w) := by
  refine Spec.of (by decide) (by simp [Value.category]) (Nat.le_of_ble_eq_true rfl) ?_
  refine blk 4 [(.aload_n 0, 0, 0, 0), (.getfield 11, 4, 0, 0), (.iconst 0, 0, 0, (nI 0))] [] (by decide +kernel) rfl (pc' := 5) (ls' := [some (.ref 5), some (.ref 35), some (.int S), some (.ref v), none]) (st' := [.int (nI 0), .ref 6]) (M' := M) rfl ⟨trivial, rfl, trivial, trivial⟩ ?_
  refine g_callS (s_fill _ (t := 6) (nI 0) (by decide) rfl) ok_fill (by decide +kernel) rfl (Nat.le_of_ble_eq_true rfl) (fun r A hA => ?_) rfl
  obtain ⟨hr, A1, A2⟩ := hA
  rw [hr]
  show G _ 8 [some (.ref 5), some (.ref 35), some (.int S), some (.ref v), none] [] A _
  refine blk 4 [(.aload_n 0, 0, 0, 0), (.getfield 15, 4, 1, 0), (.iconst 0, 0, 0, (nI 0))] [] (by decide +kernel) rfl (pc' := 13) (ls' := [some (.ref 5), some (.ref 35), some (.int S), some (.ref v), none]) (st' := [.int (nI 0), .ref 7]) (M' := A) rfl ⟨trivial, rfl, trivial, trivial⟩ ?_
  refine g_callS (s_fill _ (t := 7) (nI 0) (by decide) rfl) ok_fill (by decide +kernel) rfl (Nat.le_of_ble_eq_true rfl) (fun r B hB => ?_) rfl
  obtain ⟨hr, B1, B2⟩ := hB
  rw [hr]
  show G _ 16 [some (.ref 5), some (.ref 35), some (.int S), some (.ref v), none] [] B _
  refine blk 4 [(.aload_n 0, 0, 0, 0), (.iconst 0, 0, 0, (nI 0)), (.putfield 24, 4, 2, 0), (.iconst 0, 0, 0, (nI 0)), (.istore 4, 0, 0, 0)] [] (by decide +kernel) rfl (pc' := 24) (ls' := [some (.ref 5), some (.ref 35), some (.int S), some (.ref v), some (.int (nI 0))]) (st' := []) (M' := stm B 5 2 (nI 0)) rfl ⟨trivial, trivial, rfl, trivial, trivial, trivial⟩ ?_
  have e0 : ∀ z, (z < 5 ∨ 5 + 2 < z) → z ≠ 5 → stm B 5 2 (nI 0) z = M z := fun z h1 h2 => by rw [stm_ne h2, B2 z (by omega), A2 z (by omega)]
  refine l_read5_35 hv hv2 hw hW hc hS _ 0 _ rfl (by omega) (by rw [stm_self]; exact nI_0) (fun h => absurd h (fun z => by obtain ⟨a, h, _⟩ := z; omega)) ⟨fun k x hk hx => ?_, fun k hk => ?_⟩ e0
  · rw [stm_ne (by omega), B2 _ (by omega), A1 _ (by show _ < 192; omega)]; exact nI_0
  · rw [stm_ne (by omega), B1 _ (by show _ < 48; omega)]; exact nI_0
theorem l_read5_37 {M0 : Mem} {S : Int32} {v w : Nat} (hv : al v = 5) (hv2 : 10 < v) (hw : w ≤ 48) (hW : ∀ a, a < 5 → ¬ hb S a = 0 → M0 (61 + a) 1 = nI w) (hc : ∀ a k, a < 5 → ¬ hb S a = 0 → k < w → okc (M0 (61 + a + 5) k)) (hS : ∃ a, a < 5 ∧ ¬ hb S a = 0) : ∀ d i M, d = 5 - i → i ≤ 5 → M 5 2 = psum (whF M0 S v) i → ((∃ a, a < i ∧ ¬ hb S a = 0) → M 5 3 = nI w) → ((∀ k x, k < w → x < 4 → M (5 + 1) (k * 4 + x) = psum (letF M0 61 S v k x) i) ∧ (∀ k, k < w → M (5 + 2) k = psum (preF M0 61 S v k) i)) → (∀ z, (z < 5 ∨ 5 + 2 < z) → z ≠ 5 → M z = M0 z) → G mX4_read 24 [some (.ref 5), some (.ref 37), some (.int S), some (.ref v), some (.int (nI i))] [] M (readP M0 5 61 S v w) := by
  intro d
  induction d using Nat.strongRecOn with
  | ind d ih =>
    intro i M hd hj i1 i2 i3 i5
    refine blk 4 [(.iload 4, 0, 0, 0), (.iconst 5, 0, 0, (nI 5))] [] (by decide +kernel) rfl (pc' := 27) (ls' := [some (.ref 5), some (.ref 37), some (.int S), some (.ref v), some (.int (nI i))]) (st' := [.int (nI 5), .int (nI i)]) (M' := M) rfl ⟨trivial, trivial, trivial⟩ ?_
    refine g_icmp_ge (off := 33) (tgt := 60) (by decide +kernel) (by decide) (fun c1 => ?_) (fun c1 => ?_)
    · have nc1 : 5 ≤ i := (nI_leI (by omega) (by omega)).mp (by simpa only [nI_add, pk_mul, nI_s1, n0_lit] using c1)
      have e : i = 5 := by omega
      subst e
      exact g_return (by decide +kernel) rfl ⟨rfl, i1, i2 hS, i3.1, i3.2, i5⟩
    · have nc1 : i < 5 := by
        have z : ¬ nI 5 ≤ nI i := by simpa only [nI_add, pk_mul, nI_s1, n0_lit] using c1
        rw [nI_leI (by omega) (by omega)] at z
        omega
      refine blk 4 [(.iload_n 2, 0, 0, 0), (.iload 4, 0, 0, 0)] [] (by decide +kernel) rfl (pc' := 33) (ls' := [some (.ref 5), some (.ref 37), some (.int S), some (.ref v), some (.int (nI i))]) (st' := [.int (nI i), .int S]) (M' := M) rfl ⟨trivial, trivial, trivial⟩ ?_
      refine g_callN (index := 28) (s_holds _ S i) rfl (by decide) ⟨ok_X6_holds.1, ok_X6_holds.2.1, ok_X6_holds.2.2.1, ok_X6_holds.2.2.2, by decide +kernel, by decide +kernel⟩ (by decide +kernel) rfl (Nat.le_of_ble_eq_true rfl) (fun r M' h => ?_) rfl
      obtain ⟨hr, hM⟩ := h
      rw [hr, hM]
      show G _ 36 [some (.ref 5), some (.ref 37), some (.int S), some (.ref v), some (.int (nI i))] [.int (hb S i)] M _
      refine g_if_eq (off := 18) (tgt := 54) (by decide +kernel) (by decide) (fun c2 => ?_) (fun c2 => ?_)
      · refine blk 4 [(.iinc 4 1, 0, 0, (nI 1)), (.goto (-33), 24, 0, 0)] [] (by decide +kernel) rfl (pc' := 24) (ls' := [some (.ref 5), some (.ref 37), some (.int S), some (.ref v), some (.int (nI i + nI 1))]) (st' := []) (M' := M) rfl ⟨trivial, trivial, trivial⟩ ?_
        refine G.sub (ls' := [some (.ref 5), some (.ref 37), some (.int S), some (.ref v), some (.int (nI (i + 1)))]) ?_ ⟨rfl, rfl, rfl, rfl, congrArg (fun z => some (Value.int z)) (by simp only [nI_add, nI_s1]), trivial⟩
        refine ih (d - 1) (by omega) (i + 1) M (by omega) (by omega) ?_ (fun h => i2 ?_) ⟨fun k x hk hx => ?_, fun k hk => ?_⟩ i5
        · rw [psum, show whF M0 S v i = 0 by simp only [whF]; rw [if_pos c2], Int32.add_zero]; exact i1
        · obtain ⟨a, h1, h2⟩ := h
          exact ⟨a, by rcases Nat.lt_or_ge a i with z | z; exact z; exact absurd (show a = i by omega ▸ c2) (by rw [show a = i by omega] at h2; exact absurd c2 h2), h2⟩
        · rw [psum, show letF M0 61 S v k x i = 0 by simp only [letF]; rw [if_neg (fun z => z.1 c2)], Int32.add_zero]; exact i3.1 k x hk hx
        · rw [psum, show preF M0 61 S v k i = 0 by simp only [preF]; rw [if_neg (fun z => z.1 c2)], Int32.add_zero]; exact i3.2 k hk
      · refine blk 4 [(.aload_n 0, 0, 0, 0), (.aload_n 1, 0, 0, 0), (.getfield 32, 3, 0, 0), (.iload 4, 0, 0, 0), (.aaload, 0, 0, 0), (.aload_n 3, 0, 0, 0), (.iload 4, 0, 0, 0), (.iaload, 0, 0, 0)] [i, i] (by decide +kernel) rfl (pc' := 51) (ls' := [some (.ref 5), some (.ref 37), some (.int S), some (.ref v), some (.int (nI i))]) (st' := [.int (M v i), .ref (61 + i), .ref 5]) (M' := M) rfl ⟨trivial, trivial, rfl, trivial, ⟨rfl, (by show _ < 5; omega)⟩, trivial, trivial, ⟨rfl, (by rw [hv]; omega)⟩, trivial⟩ ?_
        have eB : M (61 + i) = M0 (61 + i) := i5 _ (by omega) (by omega)
        have eC : M (61 + i + 5) = M0 (61 + i + 5) := i5 _ (by omega) (by omega)
        refine g_callV (s_rrow5 M (t := 61 + i) (w := w) (M v i) (kd61 (by omega)) (by omega) hw (by rw [al66 (by omega)]; omega) (by rw [eB]; exact hW i (by omega) c2) (fun k h => by rw [eC]; exact hc i k (by omega) c2 h)) ok_X4_read_X4_readRow (by decide +kernel) rfl (c := 4) rfl (by decide) rfl (Nat.le_of_ble_eq_true rfl) (fun r N h => ?_) rfl
        obtain ⟨hr, q1, q2, q3, q4⟩ := h
        rw [hr]
        show G _ 54 [some (.ref 5), some (.ref 37), some (.int S), some (.ref v), some (.int (nI i))] [] N _
        refine blk 4 [(.iinc 4 1, 0, 0, (nI 1)), (.goto (-33), 24, 0, 0)] [] (by decide +kernel) rfl (pc' := 24) (ls' := [some (.ref 5), some (.ref 37), some (.int S), some (.ref v), some (.int (nI i + nI 1))]) (st' := []) (M' := N) rfl ⟨trivial, trivial, trivial⟩ ?_
        refine G.sub (ls' := [some (.ref 5), some (.ref 37), some (.int S), some (.ref v), some (.int (nI (i + 1)))]) ?_ ⟨rfl, rfl, rfl, rfl, congrArg (fun z => some (Value.int z)) (by simp only [nI_add, nI_s1]), trivial⟩
        refine ih (d - 1) (by omega) (i + 1) N (by omega) (by omega) ?_ (fun _ => q2) ⟨fun k x hk hx => ?_, fun k hk => ?_⟩ (fun z h1 h2 => ?_)
        · rw [q1, i1, psum, show whF M0 S v i = M v i by simp only [whF]; rw [if_neg c2, i5 v (by omega) (by omega)]]
        · rw [q3.1 k x hk hx, i3.1 k x hk hx, psum, eC]; congr 1; simp only [letF]; rw [← i5 v (by omega) (by omega)]; by_cases e : M0 (61 + i + 5) k = nI x
          · rw [if_pos e, if_pos ⟨c2, e⟩]
          · rw [if_neg e, if_neg (fun z => e z.2)]
        · rw [q3.2 k hk, i3.2 k hk, psum, eC]; congr 1; simp only [preF]; rw [← i5 v (by omega) (by omega)]; by_cases e : M0 (61 + i + 5) k = -1
          · rw [if_pos e, if_neg (fun z => z.2 e)]
          · rw [if_neg e, if_pos ⟨c2, e⟩]
        · rw [q4 z h1 h2]; exact i5 z h1 h2
theorem s_read5_37 (M : Mem) (S : Int32) {v w : Nat} (hv : al v = 5) (hv2 : 10 < v) (hw : w ≤ 48) (hW : ∀ a, a < 5 → ¬ hb S a = 0 → M (61 + a) 1 = nI w) (hc : ∀ a k, a < 5 → ¬ hb S a = 0 → k < w → okc (M (61 + a + 5) k)) (hS : ∃ a, a < 5 ∧ ¬ hb S a = 0) : Spec mX4_read [.ref 5, .ref 37, .int S, .ref v] M (readP M 5 61 S v w) := by
  refine Spec.of (by decide) (by simp [Value.category]) (Nat.le_of_ble_eq_true rfl) ?_
  refine blk 4 [(.aload_n 0, 0, 0, 0), (.getfield 11, 4, 0, 0), (.iconst 0, 0, 0, (nI 0))] [] (by decide +kernel) rfl (pc' := 5) (ls' := [some (.ref 5), some (.ref 37), some (.int S), some (.ref v), none]) (st' := [.int (nI 0), .ref 6]) (M' := M) rfl ⟨trivial, rfl, trivial, trivial⟩ ?_
  refine g_callS (s_fill _ (t := 6) (nI 0) (by decide) rfl) ok_fill (by decide +kernel) rfl (Nat.le_of_ble_eq_true rfl) (fun r A hA => ?_) rfl
  obtain ⟨hr, A1, A2⟩ := hA
  rw [hr]
  show G _ 8 [some (.ref 5), some (.ref 37), some (.int S), some (.ref v), none] [] A _
  refine blk 4 [(.aload_n 0, 0, 0, 0), (.getfield 15, 4, 1, 0), (.iconst 0, 0, 0, (nI 0))] [] (by decide +kernel) rfl (pc' := 13) (ls' := [some (.ref 5), some (.ref 37), some (.int S), some (.ref v), none]) (st' := [.int (nI 0), .ref 7]) (M' := A) rfl ⟨trivial, rfl, trivial, trivial⟩ ?_
  refine g_callS (s_fill _ (t := 7) (nI 0) (by decide) rfl) ok_fill (by decide +kernel) rfl (Nat.le_of_ble_eq_true rfl) (fun r B hB => ?_) rfl
  obtain ⟨hr, B1, B2⟩ := hB
  rw [hr]
  show G _ 16 [some (.ref 5), some (.ref 37), some (.int S), some (.ref v), none] [] B _
  refine blk 4 [(.aload_n 0, 0, 0, 0), (.iconst 0, 0, 0, (nI 0)), (.putfield 24, 4, 2, 0), (.iconst 0, 0, 0, (nI 0)), (.istore 4, 0, 0, 0)] [] (by decide +kernel) rfl (pc' := 24) (ls' := [some (.ref 5), some (.ref 37), some (.int S), some (.ref v), some (.int (nI 0))]) (st' := []) (M' := stm B 5 2 (nI 0)) rfl ⟨trivial, trivial, rfl, trivial, trivial, trivial⟩ ?_
  have e0 : ∀ z, (z < 5 ∨ 5 + 2 < z) → z ≠ 5 → stm B 5 2 (nI 0) z = M z := fun z h1 h2 => by rw [stm_ne h2, B2 z (by omega), A2 z (by omega)]
  refine l_read5_37 hv hv2 hw hW hc hS _ 0 _ rfl (by omega) (by rw [stm_self]; exact nI_0) (fun h => absurd h (fun z => by obtain ⟨a, h, _⟩ := z; omega)) ⟨fun k x hk hx => ?_, fun k hk => ?_⟩ e0
  · rw [stm_ne (by omega), B2 _ (by omega), A1 _ (by show _ < 192; omega)]; exact nI_0
  · rw [stm_ne (by omega), B1 _ (by show _ < 48; omega)]; exact nI_0
theorem l_rrow8 {M0 : Mem} {t w : Nat} {f A : Int32} {Post : Option Value → Mem → Prop} (hk : kd t = 2) (ht : 20 < t) (hw : w ≤ 48) (hl : w ≤ al (t + 5)) (hc0 : ∀ k, k < w → okc (M0 (t + 5) k)) (hp : ∀ M, M 8 2 = A → M 8 3 = nI w → rrJ M0 M 8 t f w → (∀ z, (z < 8 ∨ 10 < z) → z ≠ 8 → M z = M0 z) → Post none M) : ∀ d j M, d = w - j → j ≤ w → M 8 2 = A → M 8 3 = nI w → rrJ M0 M 8 t f j → rrK M0 M 8 j → (∀ z, (z < 8 ∨ 10 < z) → z ≠ 8 → M z = M0 z) → G mX4_readRow 20 [some (.ref 8), some (.ref t), some (.int f), some (.int (nI j))] [] M Post := by
  intro d
  induction d using Nat.strongRecOn with
  | ind d ih =>
    intro j M hd hj i1 i2 i3b i3 i4
    have hc : ∀ k, k < w → okc (M (t + 5) k) := fun k h => by rw [i4 (t + 5) (by omega) (by omega)]; exact hc0 k h
    refine blk 4 [(.iload_n 3, 0, 0, 0), (.aload_n 0, 0, 0, 0), (.getfield 47, 4, 3, 0)] [] (by decide +kernel) rfl (pc' := 25) (ls' := [some (.ref 8), some (.ref t), some (.int f), some (.int (nI j))]) (st' := [.int (M 8 3), .int (nI j)]) (M' := M) rfl ⟨trivial, trivial, rfl, trivial⟩ ?_
    refine g_icmp_ge (off := 48) (tgt := 73) (by decide +kernel) (by decide) (fun c1 => ?_) (fun c1 => ?_)
    · have nc1 : w ≤ j := (nI_leI (by omega) (by omega)).mp (by simpa only [i2, nI_add, pk_mul, nI_s1, n0_lit] using c1)
      have e : j = w := by omega
      subst e
      exact g_return (by decide +kernel) rfl (hp M i1 i2 i3b i4)
    · have nc1 : j < w := by
        have z : ¬ nI w ≤ nI j := by simpa only [i2, nI_add, pk_mul, nI_s1, n0_lit] using c1
        rw [nI_leI (by omega) (by omega)] at z
        omega
      refine blk 4 [(.aload_n 1, 0, 0, 0), (.getfield 48, 2, 0, 0), (.iload_n 3, 0, 0, 0), (.iaload, 0, 0, 0), (.iconst (-1), 0, 0, (-1))] [j] (by decide +kernel) rfl (pc' := 35) (ls' := [some (.ref 8), some (.ref t), some (.int f), some (.int (nI j))]) (st' := [.int (-1), .int (M (t + 5) j)]) (M' := M) rfl ⟨trivial, (by assumption), trivial, ⟨rfl, (by omega)⟩, trivial, trivial⟩ ?_
      refine g_icmp_eq (off := 32) (tgt := 67) (by decide +kernel) (by decide) (fun c2 => ?_) (fun c2 => ?_)
      · refine blk 4 [(.iinc 3 1, 0, 0, (nI 1)), (.goto (-50), 20, 0, 0)] [] (by decide +kernel) rfl (pc' := 20) (ls' := [some (.ref 8), some (.ref t), some (.int f), some (.int (nI j + nI 1))]) (st' := []) (M' := M) rfl ⟨trivial, trivial, trivial⟩ ?_
        have et : M (t + 5) = M0 (t + 5) := i4 _ (by omega) (by omega)
        refine G.sub (ls' := [some (.ref 8), some (.ref t), some (.int f), some (.int (nI (j + 1)))]) ?_ ⟨rfl, rfl, rfl, congrArg (fun z => some (Value.int z)) (by simp only [nI_add, nI_s1]), trivial⟩
        refine ih (d - 1) (by omega) (j + 1) _ (by omega) (by omega) i1 i2 ⟨fun a x ha hx => ?_, fun a ha => ?_⟩ ⟨fun a x ha hx => i3.1 a x (by omega) hx, fun a ha => i3.2 a (by omega)⟩ i4
        · by_cases e : a = j
          · subst e; rw [i3.1 a x (Nat.le_refl a) hx, ← et, if_neg (by rw [c2]; exact nI_nm1 (by omega)), Int32.add_zero]
          · exact i3b.1 a x (by omega) hx
        · by_cases e : a = j
          · subst e; rw [i3.2 a (Nat.le_refl a), ← et, if_pos c2, Int32.add_zero]
          · exact i3b.2 a (by omega)
      · have ex := okc_cd (hc j (by omega)) c2
        refine blk 4 [(.aload_n 0, 0, 0, 0), (.getfield 11, 4, 0, 0), (.iload_n 3, 0, 0, 0), (.iconst 4, 0, 0, (nI 4)), (.imul, 0, 0, 0), (.aload_n 1, 0, 0, 0), (.getfield 48, 2, 0, 0), (.iload_n 3, 0, 0, 0), (.iaload, 0, 0, 0), (.iadd, 0, 0, 0), (.dup2, 0, 0, 0), (.iaload, 0, 0, 0), (.iload_n 2, 0, 0, 0), (.iadd, 0, 0, 0), (.iastore, 0, 0, 0), (.aload_n 0, 0, 0, 0), (.getfield 15, 4, 1, 0), (.iload_n 3, 0, 0, 0), (.dup2, 0, 0, 0), (.iaload, 0, 0, 0), (.iload_n 2, 0, 0, 0), (.iadd, 0, 0, 0), (.iastore, 0, 0, 0), (.iinc 3 1, 0, 0, (nI 1)), (.goto (-50), 20, 0, 0)] [j, j * 4 + cd (M (t + 5) j), j * 4 + cd (M (t + 5) j), j, j] (by decide +kernel) rfl (pc' := 20) (ls' := [some (.ref 8), some (.ref t), some (.int f), some (.int (nI j + nI 1))]) (st' := []) (M' := stm (stm M 9 (j * 4 + cd (M (t + 5) j)) ((M 9 (j * 4 + cd (M (t + 5) j))) + f)) 10 j ((M 10 j) + f)) rfl ⟨trivial, rfl, trivial, trivial, trivial, trivial, (by assumption), trivial, ⟨rfl, (by omega)⟩, trivial, ⟨rfl, rfl⟩, ⟨(ixr ex.1), (by show _ < 192; omega)⟩, trivial, trivial, ⟨(ixr ex.1), (by show _ < 192; omega), by decide⟩, trivial, rfl, trivial, ⟨rfl, rfl⟩, ⟨rfl, (by show _ < 48; omega)⟩, trivial, trivial, ⟨rfl, (by show _ < 48; omega), by decide⟩, trivial, trivial, trivial⟩ ?_
        have et : M (t + 5) = M0 (t + 5) := i4 _ (by omega) (by omega)
        refine G.sub (ls' := [some (.ref 8), some (.ref t), some (.int f), some (.int (nI (j + 1)))]) ?_ ⟨rfl, rfl, rfl, congrArg (fun z => some (Value.int z)) (by simp only [nI_add, nI_s1]), trivial⟩
        refine ih (d - 1) (by omega) (j + 1) _ (by omega) (by omega) i1 i2 ⟨fun a x ha hx => ?_, fun a ha => ?_⟩ ⟨fun a x ha hx => ?_, fun a ha => ?_⟩ (fun z h1 h2 => ?_)
        · rw [stm_ne (by omega)]
          by_cases e : a * 4 + x = j * 4 + cd (M (t + 5) j)
          · rw [e, stm_self, ← e]
            have e1 : a = j := by omega
            have e2 : x = cd (M (t + 5) j) := by omega
            subst e1
            rw [i3.1 a x (Nat.le_refl a) hx, ← et, if_pos (by rw [e2]; exact ex.1)]
          · rw [stm_off e]
            by_cases ea : a = j
            · subst ea
              rw [i3.1 a x (Nat.le_refl a) hx, ← et, if_neg (fun z => e (by rw [ex.1] at z; have := (nI_eq (by omega) (by omega)).mp z; omega)), Int32.add_zero]
            · exact i3b.1 a x (by omega) hx
        · by_cases e : a = j
          · subst e; rw [stm_self, show M 10 a = M0 (8 + 2) a from i3.2 a (Nat.le_refl a), ← et, if_neg c2]
          · rw [stm_off e, stm_ne (by omega)]; exact i3b.2 a (by omega)
        · rw [stm_ne (by omega), stm_off (by omega)]; exact i3.1 a x (by omega) hx
        · rw [stm_off (by omega), stm_ne (by omega)]; exact i3.2 a (by omega)
        · rw [stm_ne (by omega), stm_ne (by omega)]; exact i4 z h1 h2
theorem s_rrow8 (M : Mem) {t w : Nat} (f : Int32) (hk : kd t = 2) (ht : 20 < t) (hw : w ≤ 48) (hl : w ≤ al (t + 5)) (hwd : M t 1 = nI w) (hc : ∀ k, k < w → okc (M (t + 5) k)) : Spec mX4_readRow [.ref 8, .ref t, .int f] M (rrowP M 8 t w f) := by
  refine Spec.of (by decide) (by simp [Value.category]) (Nat.le_of_ble_eq_true rfl) ?_
  refine blk 4 [(.aload_n 0, 0, 0, 0), (.dup, 0, 0, 0), (.getfield 24, 4, 2, 0), (.iload_n 2, 0, 0, 0), (.iadd, 0, 0, 0), (.putfield 24, 4, 2, 0), (.aload_n 0, 0, 0, 0), (.aload_n 1, 0, 0, 0), (.getfield 42, 2, 1, 0), (.putfield 47, 4, 3, 0), (.iconst 0, 0, 0, (nI 0)), (.istore_n 3, 0, 0, 0)] [] (by decide +kernel) rfl (pc' := 20) (ls' := [some (.ref 8), some (.ref t), some (.int f), some (.int (nI 0))]) (st' := []) (M' := stm (stm M 8 2 ((M 8 2) + f)) 8 3 ((stm M 8 2 ((M 8 2) + f)) t 1)) rfl ⟨trivial, rfl, rfl, trivial, trivial, rfl, trivial, trivial, (by assumption), rfl, trivial, trivial, trivial⟩ ?_
  rw [show stm M 8 2 (M 8 2 + f) t 1 = M t 1 by rw [stm_ne (by omega)]]
  have e2 : (stm (stm M 8 2 (M 8 2 + f)) 8 3 (M t 1)) 8 2 = M 8 2 + f := by rw [stm_off (by decide), stm_self]
  have e0 : ∀ z, z ≠ 8 → (stm (stm M 8 2 (M 8 2 + f)) 8 3 (M t 1)) z = M z := fun z hz => by rw [stm_ne hz, stm_ne hz]
  refine l_rrow8 (M0 := M) hk ht hw hl hc (fun N h1 h2 h3 h4 => ⟨rfl, h1, h2, h3, h4⟩) _ 0 _ rfl (by omega) e2 (by rw [stm_self]; exact hwd) ⟨fun k x h => absurd h (by omega), fun k h => absurd h (by omega)⟩ ⟨fun k x _ _ => by rw [e0 _ (by omega)], fun k _ => by rw [e0 _ (by omega)]⟩ (fun z _ h => e0 z h)
theorem l_read8_35 {M0 : Mem} {S : Int32} {v w : Nat} (hv : al v = 5) (hv2 : 10 < v) (hw : w ≤ 48) (hW : ∀ a, a < 5 → ¬ hb S a = 0 → M0 (51 + a) 1 = nI w) (hc : ∀ a k, a < 5 → ¬ hb S a = 0 → k < w → okc (M0 (51 + a + 5) k)) (hS : ∃ a, a < 5 ∧ ¬ hb S a = 0) : ∀ d i M, d = 5 - i → i ≤ 5 → M 8 2 = psum (whF M0 S v) i → ((∃ a, a < i ∧ ¬ hb S a = 0) → M 8 3 = nI w) → ((∀ k x, k < w → x < 4 → M (8 + 1) (k * 4 + x) = psum (letF M0 51 S v k x) i) ∧ (∀ k, k < w → M (8 + 2) k = psum (preF M0 51 S v k) i)) → (∀ z, (z < 8 ∨ 8 + 2 < z) → z ≠ 8 → M z = M0 z) → G mX4_read 24 [some (.ref 8), some (.ref 35), some (.int S), some (.ref v), some (.int (nI i))] [] M (readP M0 8 51 S v w) := by
  intro d
  induction d using Nat.strongRecOn with
  | ind d ih =>
    intro i M hd hj i1 i2 i3 i5
    refine blk 4 [(.iload 4, 0, 0, 0), (.iconst 5, 0, 0, (nI 5))] [] (by decide +kernel) rfl (pc' := 27) (ls' := [some (.ref 8), some (.ref 35), some (.int S), some (.ref v), some (.int (nI i))]) (st' := [.int (nI 5), .int (nI i)]) (M' := M) rfl ⟨trivial, trivial, trivial⟩ ?_
    refine g_icmp_ge (off := 33) (tgt := 60) (by decide +kernel) (by decide) (fun c1 => ?_) (fun c1 => ?_)
    · have nc1 : 5 ≤ i := (nI_leI (by omega) (by omega)).mp (by simpa only [nI_add, pk_mul, nI_s1, n0_lit] using c1)
      have e : i = 5 := by omega
      subst e
      exact g_return (by decide +kernel) rfl ⟨rfl, i1, i2 hS, i3.1, i3.2, i5⟩
    · have nc1 : i < 5 := by
        have z : ¬ nI 5 ≤ nI i := by simpa only [nI_add, pk_mul, nI_s1, n0_lit] using c1
        rw [nI_leI (by omega) (by omega)] at z
        omega
      refine blk 4 [(.iload_n 2, 0, 0, 0), (.iload 4, 0, 0, 0)] [] (by decide +kernel) rfl (pc' := 33) (ls' := [some (.ref 8), some (.ref 35), some (.int S), some (.ref v), some (.int (nI i))]) (st' := [.int (nI i), .int S]) (M' := M) rfl ⟨trivial, trivial, trivial⟩ ?_
      refine g_callN (index := 28) (s_holds _ S i) rfl (by decide) ⟨ok_X6_holds.1, ok_X6_holds.2.1, ok_X6_holds.2.2.1, ok_X6_holds.2.2.2, by decide +kernel, by decide +kernel⟩ (by decide +kernel) rfl (Nat.le_of_ble_eq_true rfl) (fun r M' h => ?_) rfl
      obtain ⟨hr, hM⟩ := h
      rw [hr, hM]
      show G _ 36 [some (.ref 8), some (.ref 35), some (.int S), some (.ref v), some (.int (nI i))] [.int (hb S i)] M _
      refine g_if_eq (off := 18) (tgt := 54) (by decide +kernel) (by decide) (fun c2 => ?_) (fun c2 => ?_)
      · refine blk 4 [(.iinc 4 1, 0, 0, (nI 1)), (.goto (-33), 24, 0, 0)] [] (by decide +kernel) rfl (pc' := 24) (ls' := [some (.ref 8), some (.ref 35), some (.int S), some (.ref v), some (.int (nI i + nI 1))]) (st' := []) (M' := M) rfl ⟨trivial, trivial, trivial⟩ ?_
        refine G.sub (ls' := [some (.ref 8), some (.ref 35), some (.int S), some (.ref v), some (.int (nI (i + 1)))]) ?_ ⟨rfl, rfl, rfl, rfl, congrArg (fun z => some (Value.int z)) (by simp only [nI_add, nI_s1]), trivial⟩
        refine ih (d - 1) (by omega) (i + 1) M (by omega) (by omega) ?_ (fun h => i2 ?_) ⟨fun k x hk hx => ?_, fun k hk => ?_⟩ i5
        · rw [psum, show whF M0 S v i = 0 by simp only [whF]; rw [if_pos c2], Int32.add_zero]; exact i1
        · obtain ⟨a, h1, h2⟩ := h
          exact ⟨a, by rcases Nat.lt_or_ge a i with z | z; exact z; exact absurd (show a = i by omega ▸ c2) (by rw [show a = i by omega] at h2; exact absurd c2 h2), h2⟩
        · rw [psum, show letF M0 51 S v k x i = 0 by simp only [letF]; rw [if_neg (fun z => z.1 c2)], Int32.add_zero]; exact i3.1 k x hk hx
        · rw [psum, show preF M0 51 S v k i = 0 by simp only [preF]; rw [if_neg (fun z => z.1 c2)], Int32.add_zero]; exact i3.2 k hk
      · refine blk 4 [(.aload_n 0, 0, 0, 0), (.aload_n 1, 0, 0, 0), (.getfield 32, 3, 0, 0), (.iload 4, 0, 0, 0), (.aaload, 0, 0, 0), (.aload_n 3, 0, 0, 0), (.iload 4, 0, 0, 0), (.iaload, 0, 0, 0)] [i, i] (by decide +kernel) rfl (pc' := 51) (ls' := [some (.ref 8), some (.ref 35), some (.int S), some (.ref v), some (.int (nI i))]) (st' := [.int (M v i), .ref (51 + i), .ref 8]) (M' := M) rfl ⟨trivial, trivial, rfl, trivial, ⟨rfl, (by show _ < 5; omega)⟩, trivial, trivial, ⟨rfl, (by rw [hv]; omega)⟩, trivial⟩ ?_
        have eB : M (51 + i) = M0 (51 + i) := i5 _ (by omega) (by omega)
        have eC : M (51 + i + 5) = M0 (51 + i + 5) := i5 _ (by omega) (by omega)
        refine g_callV (s_rrow8 M (t := 51 + i) (w := w) (M v i) (kd51 (by omega)) (by omega) hw (by rw [al56 (by omega)]; omega) (by rw [eB]; exact hW i (by omega) c2) (fun k h => by rw [eC]; exact hc i k (by omega) c2 h)) ok_X4_read_X4_readRow (by decide +kernel) rfl (c := 4) rfl (by decide) rfl (Nat.le_of_ble_eq_true rfl) (fun r N h => ?_) rfl
        obtain ⟨hr, q1, q2, q3, q4⟩ := h
        rw [hr]
        show G _ 54 [some (.ref 8), some (.ref 35), some (.int S), some (.ref v), some (.int (nI i))] [] N _
        refine blk 4 [(.iinc 4 1, 0, 0, (nI 1)), (.goto (-33), 24, 0, 0)] [] (by decide +kernel) rfl (pc' := 24) (ls' := [some (.ref 8), some (.ref 35), some (.int S), some (.ref v), some (.int (nI i + nI 1))]) (st' := []) (M' := N) rfl ⟨trivial, trivial, trivial⟩ ?_
        refine G.sub (ls' := [some (.ref 8), some (.ref 35), some (.int S), some (.ref v), some (.int (nI (i + 1)))]) ?_ ⟨rfl, rfl, rfl, rfl, congrArg (fun z => some (Value.int z)) (by simp only [nI_add, nI_s1]), trivial⟩
        refine ih (d - 1) (by omega) (i + 1) N (by omega) (by omega) ?_ (fun _ => q2) ⟨fun k x hk hx => ?_, fun k hk => ?_⟩ (fun z h1 h2 => ?_)
        · rw [q1, i1, psum, show whF M0 S v i = M v i by simp only [whF]; rw [if_neg c2, i5 v (by omega) (by omega)]]
        · rw [q3.1 k x hk hx, i3.1 k x hk hx, psum, eC]; congr 1; simp only [letF]; rw [← i5 v (by omega) (by omega)]; by_cases e : M0 (51 + i + 5) k = nI x
          · rw [if_pos e, if_pos ⟨c2, e⟩]
          · rw [if_neg e, if_neg (fun z => e z.2)]
        · rw [q3.2 k hk, i3.2 k hk, psum, eC]; congr 1; simp only [preF]; rw [← i5 v (by omega) (by omega)]; by_cases e : M0 (51 + i + 5) k = -1
          · rw [if_pos e, if_neg (fun z => z.2 e)]
          · rw [if_neg e, if_pos ⟨c2, e⟩]
        · rw [q4 z h1 h2]; exact i5 z h1 h2
theorem s_read8_35 (M : Mem) (S : Int32) {v w : Nat} (hv : al v = 5) (hv2 : 10 < v) (hw : w ≤ 48) (hW : ∀ a, a < 5 → ¬ hb S a = 0 → M (51 + a) 1 = nI w) (hc : ∀ a k, a < 5 → ¬ hb S a = 0 → k < w → okc (M (51 + a + 5) k)) (hS : ∃ a, a < 5 ∧ ¬ hb S a = 0) : Spec mX4_read [.ref 8, .ref 35, .int S, .ref v] M (readP M 8 51 S v w) := by
  refine Spec.of (by decide) (by simp [Value.category]) (Nat.le_of_ble_eq_true rfl) ?_
  refine blk 4 [(.aload_n 0, 0, 0, 0), (.getfield 11, 4, 0, 0), (.iconst 0, 0, 0, (nI 0))] [] (by decide +kernel) rfl (pc' := 5) (ls' := [some (.ref 8), some (.ref 35), some (.int S), some (.ref v), none]) (st' := [.int (nI 0), .ref 9]) (M' := M) rfl ⟨trivial, rfl, trivial, trivial⟩ ?_
  refine g_callS (s_fill _ (t := 9) (nI 0) (by decide) rfl) ok_fill (by decide +kernel) rfl (Nat.le_of_ble_eq_true rfl) (fun r A hA => ?_) rfl
  obtain ⟨hr, A1, A2⟩ := hA
  rw [hr]
  show G _ 8 [some (.ref 8), some (.ref 35), some (.int S), some (.ref v), none] [] A _
  refine blk 4 [(.aload_n 0, 0, 0, 0), (.getfield 15, 4, 1, 0), (.iconst 0, 0, 0, (nI 0))] [] (by decide +kernel) rfl (pc' := 13) (ls' := [some (.ref 8), some (.ref 35), some (.int S), some (.ref v), none]) (st' := [.int (nI 0), .ref 10]) (M' := A) rfl ⟨trivial, rfl, trivial, trivial⟩ ?_
  refine g_callS (s_fill _ (t := 10) (nI 0) (by decide) rfl) ok_fill (by decide +kernel) rfl (Nat.le_of_ble_eq_true rfl) (fun r B hB => ?_) rfl
  obtain ⟨hr, B1, B2⟩ := hB
  rw [hr]
  show G _ 16 [some (.ref 8), some (.ref 35), some (.int S), some (.ref v), none] [] B _
  refine blk 4 [(.aload_n 0, 0, 0, 0), (.iconst 0, 0, 0, (nI 0)), (.putfield 24, 4, 2, 0), (.iconst 0, 0, 0, (nI 0)), (.istore 4, 0, 0, 0)] [] (by decide +kernel) rfl (pc' := 24) (ls' := [some (.ref 8), some (.ref 35), some (.int S), some (.ref v), some (.int (nI 0))]) (st' := []) (M' := stm B 8 2 (nI 0)) rfl ⟨trivial, trivial, rfl, trivial, trivial, trivial⟩ ?_
  have e0 : ∀ z, (z < 8 ∨ 8 + 2 < z) → z ≠ 8 → stm B 8 2 (nI 0) z = M z := fun z h1 h2 => by rw [stm_ne h2, B2 z (by omega), A2 z (by omega)]
  refine l_read8_35 hv hv2 hw hW hc hS _ 0 _ rfl (by omega) (by rw [stm_self]; exact nI_0) (fun h => absurd h (fun z => by obtain ⟨a, h, _⟩ := z; omega)) ⟨fun k x hk hx => ?_, fun k hk => ?_⟩ e0
  · rw [stm_ne (by omega), B2 _ (by omega), A1 _ (by show _ < 192; omega)]; exact nI_0
  · rw [stm_ne (by omega), B1 _ (by show _ < 48; omega)]; exact nI_0
theorem l_read8_37 {M0 : Mem} {S : Int32} {v w : Nat} (hv : al v = 5) (hv2 : 10 < v) (hw : w ≤ 48) (hW : ∀ a, a < 5 → ¬ hb S a = 0 → M0 (61 + a) 1 = nI w) (hc : ∀ a k, a < 5 → ¬ hb S a = 0 → k < w → okc (M0 (61 + a + 5) k)) (hS : ∃ a, a < 5 ∧ ¬ hb S a = 0) : ∀ d i M, d = 5 - i → i ≤ 5 → M 8 2 = psum (whF M0 S v) i → ((∃ a, a < i ∧ ¬ hb S a = 0) → M 8 3 = nI w) → ((∀ k x, k < w → x < 4 → M (8 + 1) (k * 4 + x) = psum (letF M0 61 S v k x) i) ∧ (∀ k, k < w → M (8 + 2) k = psum (preF M0 61 S v k) i)) → (∀ z, (z < 8 ∨ 8 + 2 < z) → z ≠ 8 → M z = M0 z) → G mX4_read 24 [some (.ref 8), some (.ref 37), some (.int S), some (.ref v), some (.int (nI i))] [] M (readP M0 8 61 S v w) := by
  intro d
  induction d using Nat.strongRecOn with
  | ind d ih =>
    intro i M hd hj i1 i2 i3 i5
    refine blk 4 [(.iload 4, 0, 0, 0), (.iconst 5, 0, 0, (nI 5))] [] (by decide +kernel) rfl (pc' := 27) (ls' := [some (.ref 8), some (.ref 37), some (.int S), some (.ref v), some (.int (nI i))]) (st' := [.int (nI 5), .int (nI i)]) (M' := M) rfl ⟨trivial, trivial, trivial⟩ ?_
    refine g_icmp_ge (off := 33) (tgt := 60) (by decide +kernel) (by decide) (fun c1 => ?_) (fun c1 => ?_)
    · have nc1 : 5 ≤ i := (nI_leI (by omega) (by omega)).mp (by simpa only [nI_add, pk_mul, nI_s1, n0_lit] using c1)
      have e : i = 5 := by omega
      subst e
      exact g_return (by decide +kernel) rfl ⟨rfl, i1, i2 hS, i3.1, i3.2, i5⟩
    · have nc1 : i < 5 := by
        have z : ¬ nI 5 ≤ nI i := by simpa only [nI_add, pk_mul, nI_s1, n0_lit] using c1
        rw [nI_leI (by omega) (by omega)] at z
        omega
      refine blk 4 [(.iload_n 2, 0, 0, 0), (.iload 4, 0, 0, 0)] [] (by decide +kernel) rfl (pc' := 33) (ls' := [some (.ref 8), some (.ref 37), some (.int S), some (.ref v), some (.int (nI i))]) (st' := [.int (nI i), .int S]) (M' := M) rfl ⟨trivial, trivial, trivial⟩ ?_
      refine g_callN (index := 28) (s_holds _ S i) rfl (by decide) ⟨ok_X6_holds.1, ok_X6_holds.2.1, ok_X6_holds.2.2.1, ok_X6_holds.2.2.2, by decide +kernel, by decide +kernel⟩ (by decide +kernel) rfl (Nat.le_of_ble_eq_true rfl) (fun r M' h => ?_) rfl
      obtain ⟨hr, hM⟩ := h
      rw [hr, hM]
      show G _ 36 [some (.ref 8), some (.ref 37), some (.int S), some (.ref v), some (.int (nI i))] [.int (hb S i)] M _
      refine g_if_eq (off := 18) (tgt := 54) (by decide +kernel) (by decide) (fun c2 => ?_) (fun c2 => ?_)
      · refine blk 4 [(.iinc 4 1, 0, 0, (nI 1)), (.goto (-33), 24, 0, 0)] [] (by decide +kernel) rfl (pc' := 24) (ls' := [some (.ref 8), some (.ref 37), some (.int S), some (.ref v), some (.int (nI i + nI 1))]) (st' := []) (M' := M) rfl ⟨trivial, trivial, trivial⟩ ?_
        refine G.sub (ls' := [some (.ref 8), some (.ref 37), some (.int S), some (.ref v), some (.int (nI (i + 1)))]) ?_ ⟨rfl, rfl, rfl, rfl, congrArg (fun z => some (Value.int z)) (by simp only [nI_add, nI_s1]), trivial⟩
        refine ih (d - 1) (by omega) (i + 1) M (by omega) (by omega) ?_ (fun h => i2 ?_) ⟨fun k x hk hx => ?_, fun k hk => ?_⟩ i5
        · rw [psum, show whF M0 S v i = 0 by simp only [whF]; rw [if_pos c2], Int32.add_zero]; exact i1
        · obtain ⟨a, h1, h2⟩ := h
          exact ⟨a, by rcases Nat.lt_or_ge a i with z | z; exact z; exact absurd (show a = i by omega ▸ c2) (by rw [show a = i by omega] at h2; exact absurd c2 h2), h2⟩
        · rw [psum, show letF M0 61 S v k x i = 0 by simp only [letF]; rw [if_neg (fun z => z.1 c2)], Int32.add_zero]; exact i3.1 k x hk hx
        · rw [psum, show preF M0 61 S v k i = 0 by simp only [preF]; rw [if_neg (fun z => z.1 c2)], Int32.add_zero]; exact i3.2 k hk
      · refine blk 4 [(.aload_n 0, 0, 0, 0), (.aload_n 1, 0, 0, 0), (.getfield 32, 3, 0, 0), (.iload 4, 0, 0, 0), (.aaload, 0, 0, 0), (.aload_n 3, 0, 0, 0), (.iload 4, 0, 0, 0), (.iaload, 0, 0, 0)] [i, i] (by decide +kernel) rfl (pc' := 51) (ls' := [some (.ref 8), some (.ref 37), some (.int S), some (.ref v), some (.int (nI i))]) (st' := [.int (M v i), .ref (61 + i), .ref 8]) (M' := M) rfl ⟨trivial, trivial, rfl, trivial, ⟨rfl, (by show _ < 5; omega)⟩, trivial, trivial, ⟨rfl, (by rw [hv]; omega)⟩, trivial⟩ ?_
        have eB : M (61 + i) = M0 (61 + i) := i5 _ (by omega) (by omega)
        have eC : M (61 + i + 5) = M0 (61 + i + 5) := i5 _ (by omega) (by omega)
        refine g_callV (s_rrow8 M (t := 61 + i) (w := w) (M v i) (kd61 (by omega)) (by omega) hw (by rw [al66 (by omega)]; omega) (by rw [eB]; exact hW i (by omega) c2) (fun k h => by rw [eC]; exact hc i k (by omega) c2 h)) ok_X4_read_X4_readRow (by decide +kernel) rfl (c := 4) rfl (by decide) rfl (Nat.le_of_ble_eq_true rfl) (fun r N h => ?_) rfl
        obtain ⟨hr, q1, q2, q3, q4⟩ := h
        rw [hr]
        show G _ 54 [some (.ref 8), some (.ref 37), some (.int S), some (.ref v), some (.int (nI i))] [] N _
        refine blk 4 [(.iinc 4 1, 0, 0, (nI 1)), (.goto (-33), 24, 0, 0)] [] (by decide +kernel) rfl (pc' := 24) (ls' := [some (.ref 8), some (.ref 37), some (.int S), some (.ref v), some (.int (nI i + nI 1))]) (st' := []) (M' := N) rfl ⟨trivial, trivial, trivial⟩ ?_
        refine G.sub (ls' := [some (.ref 8), some (.ref 37), some (.int S), some (.ref v), some (.int (nI (i + 1)))]) ?_ ⟨rfl, rfl, rfl, rfl, congrArg (fun z => some (Value.int z)) (by simp only [nI_add, nI_s1]), trivial⟩
        refine ih (d - 1) (by omega) (i + 1) N (by omega) (by omega) ?_ (fun _ => q2) ⟨fun k x hk hx => ?_, fun k hk => ?_⟩ (fun z h1 h2 => ?_)
        · rw [q1, i1, psum, show whF M0 S v i = M v i by simp only [whF]; rw [if_neg c2, i5 v (by omega) (by omega)]]
        · rw [q3.1 k x hk hx, i3.1 k x hk hx, psum, eC]; congr 1; simp only [letF]; rw [← i5 v (by omega) (by omega)]; by_cases e : M0 (61 + i + 5) k = nI x
          · rw [if_pos e, if_pos ⟨c2, e⟩]
          · rw [if_neg e, if_neg (fun z => e z.2)]
        · rw [q3.2 k hk, i3.2 k hk, psum, eC]; congr 1; simp only [preF]; rw [← i5 v (by omega) (by omega)]; by_cases e : M0 (61 + i + 5) k = -1
          · rw [if_pos e, if_neg (fun z => z.2 e)]
          · rw [if_neg e, if_pos ⟨c2, e⟩]
        · rw [q4 z h1 h2]; exact i5 z h1 h2
theorem s_read8_37 (M : Mem) (S : Int32) {v w : Nat} (hv : al v = 5) (hv2 : 10 < v) (hw : w ≤ 48) (hW : ∀ a, a < 5 → ¬ hb S a = 0 → M (61 + a) 1 = nI w) (hc : ∀ a k, a < 5 → ¬ hb S a = 0 → k < w → okc (M (61 + a + 5) k)) (hS : ∃ a, a < 5 ∧ ¬ hb S a = 0) : Spec mX4_read [.ref 8, .ref 37, .int S, .ref v] M (readP M 8 61 S v w) := by
  refine Spec.of (by decide) (by simp [Value.category]) (Nat.le_of_ble_eq_true rfl) ?_
  refine blk 4 [(.aload_n 0, 0, 0, 0), (.getfield 11, 4, 0, 0), (.iconst 0, 0, 0, (nI 0))] [] (by decide +kernel) rfl (pc' := 5) (ls' := [some (.ref 8), some (.ref 37), some (.int S), some (.ref v), none]) (st' := [.int (nI 0), .ref 9]) (M' := M) rfl ⟨trivial, rfl, trivial, trivial⟩ ?_
  refine g_callS (s_fill _ (t := 9) (nI 0) (by decide) rfl) ok_fill (by decide +kernel) rfl (Nat.le_of_ble_eq_true rfl) (fun r A hA => ?_) rfl
  obtain ⟨hr, A1, A2⟩ := hA
  rw [hr]
  show G _ 8 [some (.ref 8), some (.ref 37), some (.int S), some (.ref v), none] [] A _
  refine blk 4 [(.aload_n 0, 0, 0, 0), (.getfield 15, 4, 1, 0), (.iconst 0, 0, 0, (nI 0))] [] (by decide +kernel) rfl (pc' := 13) (ls' := [some (.ref 8), some (.ref 37), some (.int S), some (.ref v), none]) (st' := [.int (nI 0), .ref 10]) (M' := A) rfl ⟨trivial, rfl, trivial, trivial⟩ ?_
  refine g_callS (s_fill _ (t := 10) (nI 0) (by decide) rfl) ok_fill (by decide +kernel) rfl (Nat.le_of_ble_eq_true rfl) (fun r B hB => ?_) rfl
  obtain ⟨hr, B1, B2⟩ := hB
  rw [hr]
  show G _ 16 [some (.ref 8), some (.ref 37), some (.int S), some (.ref v), none] [] B _
  refine blk 4 [(.aload_n 0, 0, 0, 0), (.iconst 0, 0, 0, (nI 0)), (.putfield 24, 4, 2, 0), (.iconst 0, 0, 0, (nI 0)), (.istore 4, 0, 0, 0)] [] (by decide +kernel) rfl (pc' := 24) (ls' := [some (.ref 8), some (.ref 37), some (.int S), some (.ref v), some (.int (nI 0))]) (st' := []) (M' := stm B 8 2 (nI 0)) rfl ⟨trivial, trivial, rfl, trivial, trivial, trivial⟩ ?_
  have e0 : ∀ z, (z < 8 ∨ 8 + 2 < z) → z ≠ 8 → stm B 8 2 (nI 0) z = M z := fun z h1 h2 => by rw [stm_ne h2, B2 z (by omega), A2 z (by omega)]
  refine l_read8_37 hv hv2 hw hW hc hS _ 0 _ rfl (by omega) (by rw [stm_self]; exact nI_0) (fun h => absurd h (fun z => by obtain ⟨a, h, _⟩ := z; omega)) ⟨fun k x hk hx => ?_, fun k hk => ?_⟩ e0
  · rw [stm_ne (by omega), B2 _ (by omega), A1 _ (by show _ < 192; omega)]; exact nI_0
  · rw [stm_ne (by omega), B1 _ (by show _ < 48; omega)]; exact nI_0
end
section
/-! Merger: match, worthAfter, choose, look -/
def mtF2 (M : Mem) (i j x : Nat) : Nat → Int32 := fun y => M 6 (i * 4 + x) * M 9 (j * 4 + y) * M 3 (x * 4 + y)
/-- the score of two columns -/
def mtF (M : Mem) (i j : Nat) : Int32 := psum (fun x => psum (mtF2 M i j x) 4) 4
theorem psum_zero {f : Nat → Int32} {n : Nat} (h : ∀ j, j < n → f j = 0) : psum f n = 0 := by
  induction n with
  | zero => rfl
  | succ n ih => rw [psum, ih (fun j hj => h j (by omega)), h n (by omega)]; rfl
theorem l_match2 {M : Mem} {i j x : Nat} {A : Int32} {Post : Option Value → Mem → Prop} (hi : i < 48) (hj : j < 48) (hx : x < 4) (hp : G mX1_match 5 [some (.ref 4), some (.int (nI i)), some (.int (nI j)), some (.int (A + psum (mtF2 M i j x) 4)), some (.int (nI (x + 1))), none, none] [] M Post) : ∀ d y, d = 4 - y → y ≤ 4 → G mX1_match 30 [some (.ref 4), some (.int (nI i)), some (.int (nI j)), some (.int (A + psum (mtF2 M i j x) y)), some (.int (nI x)), some (.int (M 6 (i * 4 + x))), some (.int (nI y))] [] M Post := by
  intro d
  induction d using Nat.strongRecOn with
  | ind d ih =>
    intro y hd hy
    refine blk 1 [(.iload 5, 0, 0, 0)] [] (by decide +kernel) rfl (pc' := 32) (ls' := [some (.ref 4), some (.int (nI i)), some (.int (nI j)), some (.int (A + psum (mtF2 M i j x) y)), some (.int (nI x)), some (.int (M 6 (i * 4 + x))), some (.int (nI y))]) (st' := [.int (M 6 (i * 4 + x))]) (M' := M) rfl ⟨trivial, trivial⟩ ?_
    refine g_if_eq (off := 51) (tgt := 83) (by decide +kernel) (by decide) (fun c1 => ?_) (fun c1 => ?_)
    · refine blk 1 [(.iinc 4 1, 0, 0, (nI 1)), (.goto (-81), 5, 0, 0)] [] (by decide +kernel) rfl (pc' := 5) (ls' := [some (.ref 4), some (.int (nI i)), some (.int (nI j)), some (.int (A + psum (mtF2 M i j x) y)), some (.int (nI x + nI 1)), some (.int (M 6 (i * 4 + x))), some (.int (nI y))]) (st' := []) (M' := M) rfl ⟨trivial, trivial, trivial⟩ ?_
      have e : psum (mtF2 M i j x) y = psum (mtF2 M i j x) 4 := by
        rw [psum_zero (fun a _ => by simp only [mtF2]; rw [c1, Int32.zero_mul, Int32.zero_mul]), psum_zero (fun a _ => by simp only [mtF2]; rw [c1, Int32.zero_mul, Int32.zero_mul])]
      refine G.sub (ls' := [some (.ref 4), some (.int (nI i)), some (.int (nI j)), some (.int (A + psum (mtF2 M i j x) 4)), some (.int (nI (x + 1))), none, none]) ?_ ⟨rfl, rfl, rfl, congrArg (fun z => some (Value.int z)) (by rw [e]), congrArg (fun z => some (Value.int z)) (by simp only [nI_add, nI_s1]), trivial⟩
      exact hp
    · refine blk 1 [(.iload 6, 0, 0, 0), (.iconst 4, 0, 0, (nI 4))] [] (by decide +kernel) rfl (pc' := 38) (ls' := [some (.ref 4), some (.int (nI i)), some (.int (nI j)), some (.int (A + psum (mtF2 M i j x) y)), some (.int (nI x)), some (.int (M 6 (i * 4 + x))), some (.int (nI y))]) (st' := [.int (nI 4), .int (nI y)]) (M' := M) rfl ⟨trivial, trivial, trivial⟩ ?_
      refine g_icmp_ge (off := 45) (tgt := 83) (by decide +kernel) (by decide) (fun c2 => ?_) (fun c2 => ?_)
      · have nc2 : 4 ≤ y := (nI_leI (by omega) (by omega)).mp (by simpa only [nI_add, pk_mul, nI_s1, n0_lit] using c2)
        refine blk 1 [(.iinc 4 1, 0, 0, (nI 1)), (.goto (-81), 5, 0, 0)] [] (by decide +kernel) rfl (pc' := 5) (ls' := [some (.ref 4), some (.int (nI i)), some (.int (nI j)), some (.int (A + psum (mtF2 M i j x) y)), some (.int (nI x + nI 1)), some (.int (M 6 (i * 4 + x))), some (.int (nI y))]) (st' := []) (M' := M) rfl ⟨trivial, trivial, trivial⟩ ?_
        have e : psum (mtF2 M i j x) y = psum (mtF2 M i j x) 4 := by rw [show y = 4 by omega]
        refine G.sub (ls' := [some (.ref 4), some (.int (nI i)), some (.int (nI j)), some (.int (A + psum (mtF2 M i j x) 4)), some (.int (nI (x + 1))), none, none]) ?_ ⟨rfl, rfl, rfl, congrArg (fun z => some (Value.int z)) (by rw [e]), congrArg (fun z => some (Value.int z)) (by simp only [nI_add, nI_s1]), trivial⟩
        exact hp
      · have nc2 : y < 4 := by
          have z : ¬ nI 4 ≤ nI y := by simpa only [nI_add, pk_mul, nI_s1, n0_lit] using c2
          rw [nI_leI (by omega) (by omega)] at z
          omega
        refine blk 1 [(.iload_n 3, 0, 0, 0), (.iload 5, 0, 0, 0), (.aload_n 0, 0, 0, 0), (.getfield 18, 1, 2, 0), (.getfield 102, 4, 0, 0), (.iload_n 2, 0, 0, 0), (.iconst 4, 0, 0, (nI 4)), (.imul, 0, 0, 0), (.iload 6, 0, 0, 0), (.iadd, 0, 0, 0), (.iaload, 0, 0, 0), (.imul, 0, 0, 0), (.aload_n 0, 0, 0, 0), (.getfield 30, 1, 0, 0), (.getfield 105, 0, 0, 0), (.iload 4, 0, 0, 0), (.iconst 4, 0, 0, (nI 4)), (.imul, 0, 0, 0), (.iload 6, 0, 0, 0), (.iadd, 0, 0, 0), (.iaload, 0, 0, 0), (.imul, 0, 0, 0), (.iadd, 0, 0, 0), (.istore_n 3, 0, 0, 0), (.iinc 6 1, 0, 0, (nI 1)), (.goto (-50), 30, 0, 0)] [j * 4 + y, x * 4 + y] (by decide +kernel) rfl (pc' := 30) (ls' := [some (.ref 4), some (.int (nI i)), some (.int (nI j)), some (.int ((A + psum (mtF2 M i j x) y) + (((M 6 (i * 4 + x)) * (M 9 (j * 4 + y))) * (M 3 (x * 4 + y))))), some (.int (nI x)), some (.int (M 6 (i * 4 + x))), some (.int (nI y + nI 1))]) (st' := []) (M' := M) rfl ⟨trivial, trivial, trivial, rfl, rfl, trivial, trivial, trivial, trivial, trivial, ⟨(by simp only [nI_add, pk_mul, nI_s1, Nat.reduceAdd, Nat.reduceMul]), (by show _ < 192; omega)⟩, trivial, trivial, rfl, rfl, trivial, trivial, trivial, trivial, trivial, ⟨(by simp only [nI_add, pk_mul, nI_s1, Nat.reduceAdd, Nat.reduceMul]), (by show _ < 16; omega)⟩, trivial, trivial, trivial, trivial, trivial, trivial⟩ ?_
        refine G.sub (ls' := [some (.ref 4), some (.int (nI i)), some (.int (nI j)), some (.int (A + psum (mtF2 M i j x) (y + 1))), some (.int (nI x)), some (.int (M 6 (i * 4 + x))), some (.int (nI (y + 1)))]) ?_ ⟨rfl, rfl, rfl, congrArg (fun z => some (Value.int z)) (by rw [psum, ← Int32.add_assoc]; rfl), rfl, rfl, congrArg (fun z => some (Value.int z)) (by simp only [nI_add, nI_s1]), trivial⟩
        exact ih (d - 1) (by omega) (y + 1) (by omega) (by omega)
theorem l_match {M : Mem} {i j : Nat} (hi : i < 48) (hj : j < 48) : ∀ d x, d = 4 - x → x ≤ 4 → G mX1_match 5 [some (.ref 4), some (.int (nI i)), some (.int (nI j)), some (.int (psum (fun x => psum (mtF2 M i j x) 4) x)), some (.int (nI x)), none, none] [] M (Ret (mtF M i j) M) := by
  intro d
  induction d using Nat.strongRecOn with
  | ind d ih =>
    intro x hd hy
    refine blk 1 [(.iload 4, 0, 0, 0), (.iconst 4, 0, 0, (nI 4))] [] (by decide +kernel) rfl (pc' := 8) (ls' := [some (.ref 4), some (.int (nI i)), some (.int (nI j)), some (.int (psum (fun x => psum (mtF2 M i j x) 4) x)), some (.int (nI x)), none, none]) (st' := [.int (nI 4), .int (nI x)]) (M' := M) rfl ⟨trivial, trivial, trivial⟩ ?_
    refine g_icmp_ge (off := 81) (tgt := 89) (by decide +kernel) (by decide) (fun c1 => ?_) (fun c1 => ?_)
    · have nc1 : 4 ≤ x := (nI_leI (by omega) (by omega)).mp (by simpa only [nI_add, pk_mul, nI_s1, n0_lit] using c1)
      refine blk 1 [(.iload_n 3, 0, 0, 0)] [] (by decide +kernel) rfl (pc' := 90) (ls' := [some (.ref 4), some (.int (nI i)), some (.int (nI j)), some (.int (psum (fun x => psum (mtF2 M i j x) 4) x)), some (.int (nI x)), none, none]) (st' := [.int (psum (fun x => psum (mtF2 M i j x) 4) x)]) (M' := M) rfl ⟨trivial, trivial⟩ ?_
      have e : x = 4 := by omega
      subst e
      exact g_ireturn (by decide +kernel) rfl rfl ⟨rfl, rfl⟩
    · have nc1 : x < 4 := by
        have z : ¬ nI 4 ≤ nI x := by simpa only [nI_add, pk_mul, nI_s1, n0_lit] using c1
        rw [nI_leI (by omega) (by omega)] at z
        omega
      refine blk 1 [(.aload_n 0, 0, 0, 0), (.getfield 12, 1, 1, 0), (.getfield 102, 4, 0, 0), (.iload_n 1, 0, 0, 0), (.iconst 4, 0, 0, (nI 4)), (.imul, 0, 0, 0), (.iload 4, 0, 0, 0), (.iadd, 0, 0, 0), (.iaload, 0, 0, 0), (.istore 5, 0, 0, 0), (.iconst 0, 0, 0, (nI 0)), (.istore 6, 0, 0, 0)] [i * 4 + x] (by decide +kernel) rfl (pc' := 30) (ls' := [some (.ref 4), some (.int (nI i)), some (.int (nI j)), some (.int (psum (fun x => psum (mtF2 M i j x) 4) x)), some (.int (nI x)), some (.int (M 6 (i * 4 + x))), some (.int (nI 0))]) (st' := []) (M' := M) rfl ⟨trivial, rfl, rfl, trivial, trivial, trivial, trivial, trivial, ⟨(by simp only [nI_add, pk_mul, nI_s1, Nat.reduceAdd, Nat.reduceMul]), (by show _ < 192; omega)⟩, trivial, trivial, trivial, trivial⟩ ?_
      refine G.sub (ls' := [some (.ref 4), some (.int (nI i)), some (.int (nI j)), some (.int (psum (fun x => psum (mtF2 M i j x) 4) x + psum (mtF2 M i j x) 0)), some (.int (nI x)), some (.int (M 6 (i * 4 + x))), some (.int (nI 0))]) ?_ ⟨rfl, rfl, rfl, congrArg (fun z => some (Value.int z)) (Int32.add_zero _).symm, rfl, rfl, rfl, trivial⟩
      exact l_match2 hi hj (by omega) (ih (d - 1) (by omega) (x + 1) (by omega) (by omega)) _ 0 rfl (by omega)
theorem s_match (M : Mem) {i j : Nat} (hi : i < 48) (hj : j < 48) : Spec mX1_match [.ref 4, .int (nI i), .int (nI j)] M (Ret (mtF M i j) M) := by
  refine Spec.of (by decide) (by simp [Value.category]) (Nat.le_of_ble_eq_true rfl) ?_
  refine blk 1 [(.iconst 0, 0, 0, (nI 0)), (.istore_n 3, 0, 0, 0), (.iconst 0, 0, 0, (nI 0)), (.istore 4, 0, 0, 0)] [] (by decide +kernel) rfl (pc' := 5) (ls' := [some (.ref 4), some (.int (nI i)), some (.int (nI j)), some (.int (nI 0)), some (.int (nI 0)), none, none]) (st' := []) (M' := M) rfl ⟨trivial, trivial, trivial, trivial, trivial⟩ ?_
  exact l_match hi hj _ 0 rfl (by omega)
/-- the worth behind a step s after a step l, out of the three looked-up ones -/
def waV (b L R op : Int32) (l s : Nat) : Int32 := if s = 0 then b else if s = 1 then (if s = l then L else L - op) else (if s = l then R else R - op)
def chV (b L R op : Int32) (l : Nat) : Nat := if ¬ b < waV b L R op l 1 ∧ ¬ b < waV b L R op l 2 then 0 else if ¬ waV b L R op l 1 < waV b L R op l 2 then 1 else 2
def waF (M : Mem) (l s : Nat) : Int32 := waV (M 4 7) (M 4 8) (M 4 9) (M 4 6) l s
def chF (M : Mem) (l : Nat) : Nat := chV (M 4 7) (M 4 8) (M 4 9) (M 4 6) l
theorem chV_le (b L R op : Int32) (l : Nat) : chV b L R op l ≤ 2 := by unfold chV; split <;> (try split) <;> omega
theorem s_worthAfter (M : Mem) {l s : Nat} (hl : l ≤ 2) (hs : s ≤ 2) : Spec mX1_worthAfter [.ref 4, .int (nI l), .int (nI s)] M (Ret (waF M l s) M) := by
  refine Spec.of (by decide) (by simp [Value.category]) (Nat.le_of_ble_eq_true rfl) ?_
  refine blk 1 [(.iload_n 2, 0, 0, 0)] [] (by decide +kernel) rfl (pc' := 1) (ls' := [some (.ref 4), some (.int (nI l)), some (.int (nI s)), none]) (st' := [.int (nI s)]) (M' := M) rfl ⟨trivial, trivial⟩ ?_
  refine g_if_ne (off := 8) (tgt := 9) (by decide +kernel) (by decide) (fun c1 => ?_) (fun c1 => ?_)
  · have nc1 : s ≠ 0 := by
      have z : ¬ nI s = nI 0 := by simpa only [nI_add, pk_mul, nI_s1, n0_lit] using c1
      rw [nI_eq (by omega) (by omega)] at z
      omega
    refine blk 1 [(.iload_n 2, 0, 0, 0), (.iconst 1, 0, 0, (nI 1))] [] (by decide +kernel) rfl (pc' := 11) (ls' := [some (.ref 4), some (.int (nI l)), some (.int (nI s)), none]) (st' := [.int (nI 1), .int (nI s)]) (M' := M) rfl ⟨trivial, trivial, trivial⟩ ?_
    refine g_icmp_ne (off := 10) (tgt := 21) (by decide +kernel) (by decide) (fun c2 => ?_) (fun c2 => ?_)
    · have nc2 : s ≠ 1 := by
        have z : ¬ nI s = nI 1 := by simpa only [nI_add, pk_mul, nI_s1, n0_lit] using c2
        rw [nI_eq (by omega) (by omega)] at z
        omega
      refine blk 1 [(.aload_n 0, 0, 0, 0), (.getfield 90, 1, 9, 0), (.istore_n 3, 0, 0, 0), (.iload_n 2, 0, 0, 0), (.iload_n 1, 0, 0, 0)] [] (by decide +kernel) rfl (pc' := 28) (ls' := [some (.ref 4), some (.int (nI l)), some (.int (nI s)), some (.int (M 4 9))]) (st' := [.int (nI l), .int (nI s)]) (M' := M) rfl ⟨trivial, rfl, trivial, trivial, trivial, trivial⟩ ?_
      refine g_icmp_ne (off := 7) (tgt := 35) (by decide +kernel) (by decide) (fun c3 => ?_) (fun c3 => ?_)
      · have nc3 : s ≠ l := by
          have z : ¬ nI s = nI l := by simpa only [nI_add, pk_mul, nI_s1, n0_lit] using c3
          rw [nI_eq (by omega) (by omega)] at z
          omega
        refine blk 1 [(.iload_n 3, 0, 0, 0), (.aload_n 0, 0, 0, 0), (.getfield 47, 1, 6, 0), (.isub, 0, 0, 0)] [] (by decide +kernel) rfl (pc' := 41) (ls' := [some (.ref 4), some (.int (nI l)), some (.int (nI s)), some (.int (M 4 9))]) (st' := [.int ((M 4 9) - (M 4 6))]) (M' := M) rfl ⟨trivial, trivial, rfl, trivial, trivial⟩ ?_
        exact g_ireturn (by decide +kernel) rfl rfl ⟨by unfold waF waV; grind, rfl⟩
      · have nc3 : s = l := (nI_eq (by omega) (by omega)).mp (by simpa only [nI_add, pk_mul, nI_s1, n0_lit] using c3)
        refine blk 1 [(.iload_n 3, 0, 0, 0), (.goto (9), 41, 0, 0)] [] (by decide +kernel) rfl (pc' := 41) (ls' := [some (.ref 4), some (.int (nI l)), some (.int (nI s)), some (.int (M 4 9))]) (st' := [.int (M 4 9)]) (M' := M) rfl ⟨trivial, trivial, trivial⟩ ?_
        exact g_ireturn (by decide +kernel) rfl rfl ⟨by unfold waF waV; grind, rfl⟩
    · have nc2 : s = 1 := (nI_eq (by omega) (by omega)).mp (by simpa only [nI_add, pk_mul, nI_s1, n0_lit] using c2)
      refine blk 1 [(.aload_n 0, 0, 0, 0), (.getfield 87, 1, 8, 0), (.goto (7), 25, 0, 0), (.istore_n 3, 0, 0, 0), (.iload_n 2, 0, 0, 0), (.iload_n 1, 0, 0, 0)] [] (by decide +kernel) rfl (pc' := 28) (ls' := [some (.ref 4), some (.int (nI l)), some (.int (nI s)), some (.int (M 4 8))]) (st' := [.int (nI l), .int (nI s)]) (M' := M) rfl ⟨trivial, rfl, trivial, trivial, trivial, trivial, trivial⟩ ?_
      refine g_icmp_ne (off := 7) (tgt := 35) (by decide +kernel) (by decide) (fun c4 => ?_) (fun c4 => ?_)
      · have nc4 : s ≠ l := by
          have z : ¬ nI s = nI l := by simpa only [nI_add, pk_mul, nI_s1, n0_lit] using c4
          rw [nI_eq (by omega) (by omega)] at z
          omega
        refine blk 1 [(.iload_n 3, 0, 0, 0), (.aload_n 0, 0, 0, 0), (.getfield 47, 1, 6, 0), (.isub, 0, 0, 0)] [] (by decide +kernel) rfl (pc' := 41) (ls' := [some (.ref 4), some (.int (nI l)), some (.int (nI s)), some (.int (M 4 8))]) (st' := [.int ((M 4 8) - (M 4 6))]) (M' := M) rfl ⟨trivial, trivial, rfl, trivial, trivial⟩ ?_
        exact g_ireturn (by decide +kernel) rfl rfl ⟨by unfold waF waV; grind, rfl⟩
      · have nc4 : s = l := (nI_eq (by omega) (by omega)).mp (by simpa only [nI_add, pk_mul, nI_s1, n0_lit] using c4)
        refine blk 1 [(.iload_n 3, 0, 0, 0), (.goto (9), 41, 0, 0)] [] (by decide +kernel) rfl (pc' := 41) (ls' := [some (.ref 4), some (.int (nI l)), some (.int (nI s)), some (.int (M 4 8))]) (st' := [.int (M 4 8)]) (M' := M) rfl ⟨trivial, trivial, trivial⟩ ?_
        exact g_ireturn (by decide +kernel) rfl rfl ⟨by unfold waF waV; grind, rfl⟩
  · have nc1 : s = 0 := (nI_eq (by omega) (by omega)).mp (by simpa only [nI_add, pk_mul, nI_s1, n0_lit] using c1)
    refine blk 1 [(.aload_n 0, 0, 0, 0), (.getfield 84, 1, 7, 0)] [] (by decide +kernel) rfl (pc' := 8) (ls' := [some (.ref 4), some (.int (nI l)), some (.int (nI s)), none]) (st' := [.int (M 4 7)]) (M' := M) rfl ⟨trivial, rfl, trivial⟩ ?_
    exact g_ireturn (by decide +kernel) rfl rfl ⟨by unfold waF waV; grind, rfl⟩
theorem s_choose (M : Mem) {l : Nat} (hl : l ≤ 2) : Spec mX1_choose [.ref 4, .int (nI l)] M (Ret (nI (chF M l)) M) := by
  refine Spec.of (by decide) (by simp [Value.category]) (Nat.le_of_ble_eq_true rfl) ?_
  refine blk 1 [(.aload_n 0, 0, 0, 0), (.iload_n 1, 0, 0, 0), (.iconst 1, 0, 0, (nI 1))] [] (by decide +kernel) rfl (pc' := 3) (ls' := [some (.ref 4), some (.int (nI l)), none, none]) (st' := [.int (nI 1), .int (nI l), .ref 4]) (M' := M) rfl ⟨trivial, trivial, trivial, trivial⟩ ?_
  refine g_callV (s_worthAfter M (l := l) (s := 1) hl (by decide)) ok_X1_choose_X1_worthAfter (by decide +kernel) rfl (c := 1) rfl (by decide) rfl (Nat.le_of_ble_eq_true rfl) (fun r M' h => ?_) rfl
  obtain ⟨hr, hM⟩ := h
  rw [hr, hM]
  show G _ 6 [some (.ref 4), some (.int (nI l)), none, none] [.int (waF M l 1)] M _
  refine blk 1 [(.istore_n 2, 0, 0, 0), (.aload_n 0, 0, 0, 0), (.iload_n 1, 0, 0, 0), (.iconst 2, 0, 0, (nI 2))] [] (by decide +kernel) rfl (pc' := 10) (ls' := [some (.ref 4), some (.int (nI l)), some (.int (waF M l 1)), none]) (st' := [.int (nI 2), .int (nI l), .ref 4]) (M' := M) rfl ⟨trivial, trivial, trivial, trivial, trivial⟩ ?_
  refine g_callV (s_worthAfter M (l := l) (s := 2) hl (by decide)) ok_X1_choose_X1_worthAfter (by decide +kernel) rfl (c := 1) rfl (by decide) rfl (Nat.le_of_ble_eq_true rfl) (fun r M' h => ?_) rfl
  obtain ⟨hr, hM⟩ := h
  rw [hr, hM]
  show G _ 13 [some (.ref 4), some (.int (nI l)), some (.int (waF M l 1)), none] [.int (waF M l 2)] M _
  refine blk 1 [(.istore_n 3, 0, 0, 0), (.aload_n 0, 0, 0, 0), (.getfield 84, 1, 7, 0), (.iload_n 2, 0, 0, 0)] [] (by decide +kernel) rfl (pc' := 19) (ls' := [some (.ref 4), some (.int (nI l)), some (.int (waF M l 1)), some (.int (waF M l 2))]) (st' := [.int (waF M l 1), .int (M 4 7)]) (M' := M) rfl ⟨trivial, trivial, rfl, trivial, trivial⟩ ?_
  refine g_icmp_lt (off := 13) (tgt := 32) (by decide +kernel) (by decide) (fun c1 => ?_) (fun c1 => ?_)
  · refine blk 1 [(.iload_n 2, 0, 0, 0), (.iload_n 3, 0, 0, 0)] [] (by decide +kernel) rfl (pc' := 34) (ls' := [some (.ref 4), some (.int (nI l)), some (.int (waF M l 1)), some (.int (waF M l 2))]) (st' := [.int (waF M l 2), .int (waF M l 1)]) (M' := M) rfl ⟨trivial, trivial, trivial⟩ ?_
    refine g_icmp_lt (off := 7) (tgt := 41) (by decide +kernel) (by decide) (fun c2 => ?_) (fun c2 => ?_)
    · refine blk 1 [(.iconst 2, 0, 0, (nI 2))] [] (by decide +kernel) rfl (pc' := 42) (ls' := [some (.ref 4), some (.int (nI l)), some (.int (waF M l 1)), some (.int (waF M l 2))]) (st' := [.int (nI 2)]) (M' := M) rfl ⟨trivial, trivial⟩ ?_
      refine g_ireturn (by decide +kernel) rfl rfl ⟨?_, rfl⟩
      unfold chF chV
      unfold waF at *
      simp [*]
    · refine blk 1 [(.iconst 1, 0, 0, (nI 1)), (.goto (4), 42, 0, 0)] [] (by decide +kernel) rfl (pc' := 42) (ls' := [some (.ref 4), some (.int (nI l)), some (.int (waF M l 1)), some (.int (waF M l 2))]) (st' := [.int (nI 1)]) (M' := M) rfl ⟨trivial, trivial, trivial⟩ ?_
      refine g_ireturn (by decide +kernel) rfl rfl ⟨?_, rfl⟩
      unfold chF chV
      unfold waF at *
      simp [*]
  · refine blk 1 [(.aload_n 0, 0, 0, 0), (.getfield 84, 1, 7, 0), (.iload_n 3, 0, 0, 0)] [] (by decide +kernel) rfl (pc' := 27) (ls' := [some (.ref 4), some (.int (nI l)), some (.int (waF M l 1)), some (.int (waF M l 2))]) (st' := [.int (waF M l 2), .int (M 4 7)]) (M' := M) rfl ⟨trivial, rfl, trivial, trivial⟩ ?_
    refine g_icmp_lt (off := 5) (tgt := 32) (by decide +kernel) (by decide) (fun c3 => ?_) (fun c3 => ?_)
    · refine blk 1 [(.iload_n 2, 0, 0, 0), (.iload_n 3, 0, 0, 0)] [] (by decide +kernel) rfl (pc' := 34) (ls' := [some (.ref 4), some (.int (nI l)), some (.int (waF M l 1)), some (.int (waF M l 2))]) (st' := [.int (waF M l 2), .int (waF M l 1)]) (M' := M) rfl ⟨trivial, trivial, trivial⟩ ?_
      refine g_icmp_lt (off := 7) (tgt := 41) (by decide +kernel) (by decide) (fun c4 => ?_) (fun c4 => ?_)
      · refine blk 1 [(.iconst 2, 0, 0, (nI 2))] [] (by decide +kernel) rfl (pc' := 42) (ls' := [some (.ref 4), some (.int (nI l)), some (.int (waF M l 1)), some (.int (waF M l 2))]) (st' := [.int (nI 2)]) (M' := M) rfl ⟨trivial, trivial⟩ ?_
        refine g_ireturn (by decide +kernel) rfl rfl ⟨?_, rfl⟩
        unfold chF chV
        unfold waF at *
        simp [*]
      · refine blk 1 [(.iconst 1, 0, 0, (nI 1)), (.goto (4), 42, 0, 0)] [] (by decide +kernel) rfl (pc' := 42) (ls' := [some (.ref 4), some (.int (nI l)), some (.int (waF M l 1)), some (.int (waF M l 2))]) (st' := [.int (nI 1)]) (M' := M) rfl ⟨trivial, trivial, trivial⟩ ?_
        refine g_ireturn (by decide +kernel) rfl rfl ⟨?_, rfl⟩
        unfold chF chV
        unfold waF at *
        simp [*]
    · refine blk 1 [(.iconst 0, 0, 0, (nI 0))] [] (by decide +kernel) rfl (pc' := 31) (ls' := [some (.ref 4), some (.int (nI l)), some (.int (waF M l 1)), some (.int (waF M l 2))]) (st' := [.int (nI 0)]) (M' := M) rfl ⟨trivial, trivial⟩ ?_
      refine g_ireturn (by decide +kernel) rfl rfl ⟨?_, rfl⟩
      unfold chF chV
      unfold waF at *
      simp [*]
end
section
/-! Merger: look, fill -/
theorem plc_lt {a b p q : Nat} (ha : a ≤ p) (hb : b ≤ q) (h : (p + 1) * (q + 1) ≤ 925) : a * (q + 1) + b < 925 := by
  have h1 := Nat.mul_le_mul_right (q + 1) ha
  rw [Nat.add_mul] at h
  omega
/-- the worth with a BOTH, a LEFT, a RIGHT next, out of the tables (tags 12 to 14) -/
def lkB (M : Mem) (p q i j : Nat) : Int32 := if i < p ∧ j < q then M 12 ((i + 1) * (q + 1) + (j + 1)) + mtF M i j else -1000000000
def lkL (M : Mem) (p q i j : Nat) : Int32 := if i < p then M 13 ((i + 1) * (q + 1) + j) - M 2 2 * M 7 i * M 8 2 else -1000000000
def lkR (M : Mem) (p q i j : Nat) : Int32 := if j < q then M 14 (i * (q + 1) + (j + 1)) - M 2 2 * M 10 j * M 5 2 else -1000000000
def lookP (M : Mem) (p q i j : Nat) : Option Value → Mem → Prop := fun r N => r = none ∧ N 4 7 = lkB M p q i j ∧ N 4 8 = lkL M p q i j ∧ N 4 9 = lkR M p q i j ∧ N 4 5 = M 4 5 ∧ N 4 6 = M 4 6 ∧ ∀ z, z ≠ 4 → N z = M z
/-- the sides are p and q columns wide, and the tables have room -/
def mrg (M : Mem) (p q : Nat) : Prop := M 5 3 = nI p ∧ M 8 3 = nI q ∧ p ≤ 48 ∧ q ≤ 48 ∧ (p + 1) * (q + 1) ≤ 925
theorem mtF_congr {M N : Mem} {i j : Nat} (h6 : N 6 = M 6) (h9 : N 9 = M 9) (h3 : N 3 = M 3) : mtF N i j = mtF M i j := by
  unfold mtF mtF2; rw [h6, h9, h3]
theorem l_look11 {M N : Mem} {p q i j : Nat} (hm : mrg M p q) (hi : i ≤ p) (hj : j ≤ q) (ci : i < p) (cj : j < q) (h7 : N 4 7 = -1000000000) (h8 : N 4 8 = -1000000000) (h9 : N 4 9 = -1000000000) (h45 : N 4 5 = M 4 5) (h46 : N 4 6 = M 4 6) (h0 : ∀ z, z ≠ 4 → N z = M z) : G mX1_look 53 [some (.ref 4), some (.int (nI i)), some (.int (nI j)), some (.int (nI 1)), some (.int (nI 1))] [] N (lookP M p q i j) := by
  obtain ⟨h1, h2, h3, h4, h5⟩ := hm
  have hq : N 8 3 = nI q := by rw [h0 8 (by decide)]; exact h2
  refine blk 1 [(.iload_n 3, 0, 0, 0)] [] (by decide +kernel) rfl (pc' := 54) (ls' := [some (.ref 4), some (.int (nI i)), some (.int (nI j)), some (.int (nI 1)), some (.int (nI 1))]) (st' := [.int (nI 1)]) (M' := N) rfl ⟨trivial, trivial⟩ ?_
  refine g_if_eq (off := 36) (tgt := 90) (by decide +kernel) (by decide) (fun c1 => ?_) (fun c1 => ?_)
  · exact absurd c1 (by decide +kernel)
  · refine blk 1 [(.iload 4, 0, 0, 0)] [] (by decide +kernel) rfl (pc' := 59) (ls' := [some (.ref 4), some (.int (nI i)), some (.int (nI j)), some (.int (nI 1)), some (.int (nI 1))]) (st' := [.int (nI 1)]) (M' := N) rfl ⟨trivial, trivial⟩ ?_
    refine g_if_eq (off := 31) (tgt := 90) (by decide +kernel) (by decide) (fun c2 => ?_) (fun c2 => ?_)
    · exact absurd c2 (by decide +kernel)
    · refine blk 1 [(.aload_n 0, 0, 0, 0), (.aload_n 0, 0, 0, 0), (.getfield 23, 1, 3, 0), (.iconst 0, 0, 0, (nI 0)), (.aaload, 0, 0, 0), (.aload_n 0, 0, 0, 0), (.iload_n 1, 0, 0, 0), (.iconst 1, 0, 0, (nI 1)), (.iadd, 0, 0, 0), (.iload_n 2, 0, 0, 0), (.iconst 1, 0, 0, (nI 1)), (.iadd, 0, 0, 0)] [0] (by decide +kernel) rfl (pc' := 76) (ls' := [some (.ref 4), some (.int (nI i)), some (.int (nI j)), some (.int (nI 1)), some (.int (nI 1))]) (st' := [.int ((nI j) + (nI 1)), .int ((nI i) + (nI 1)), .ref 4, .ref 12, .ref 4]) (M' := N) rfl ⟨trivial, trivial, rfl, trivial, ⟨rfl, (by decide)⟩, trivial, trivial, trivial, trivial, trivial, trivial, trivial, trivial⟩ ?_
      refine g_callV (s_place N _ _) ok_X1_look_X1_place (by decide +kernel) rfl (c := 1) rfl (by decide) rfl (Nat.le_of_ble_eq_true rfl) (fun r M' h => ?_) rfl
      obtain ⟨hr, hM⟩ := h
      rw [hr, hM]
      show G _ 79 [some (.ref 4), some (.int (nI i)), some (.int (nI j)), some (.int (nI 1)), some (.int (nI 1))] [.int (((nI i) + (nI 1)) * (N 8 3 + nI 1) + ((nI j) + (nI 1))), .ref 12, .ref 4] N _
      refine blk 1 [(.iaload, 0, 0, 0), (.aload_n 0, 0, 0, 0), (.iload_n 1, 0, 0, 0), (.iload_n 2, 0, 0, 0)] [(i + 1) * (q + 1) + (j + 1)] (by decide +kernel) rfl (pc' := 83) (ls' := [some (.ref 4), some (.int (nI i)), some (.int (nI j)), some (.int (nI 1)), some (.int (nI 1))]) (st' := [.int (nI j), .int (nI i), .ref 4, .int (N 12 ((i + 1) * (q + 1) + (j + 1))), .ref 4]) (M' := N) rfl ⟨⟨(by simp only [hq, nI_add, pk_mul, nI_s1, Nat.reduceAdd, Nat.reduceMul]), (plc_lt (p := p) (by omega) (by omega) h5)⟩, trivial, trivial, trivial, trivial⟩ ?_
      refine g_callV (s_match N (i := i) (j := j) (by omega) (by omega)) ok_X1_look_X1_match (by decide +kernel) rfl (c := 1) rfl (by decide) rfl (Nat.le_of_ble_eq_true rfl) (fun r M' h => ?_) rfl
      obtain ⟨hr, hM⟩ := h
      rw [hr, hM]
      show G _ 86 [some (.ref 4), some (.int (nI i)), some (.int (nI j)), some (.int (nI 1)), some (.int (nI 1))] [.int (mtF N i j), .int (N 12 ((i + 1) * (q + 1) + (j + 1))), .ref 4] N _
      refine blk 1 [(.iadd, 0, 0, 0), (.putfield 84, 1, 7, 0), (.iload_n 3, 0, 0, 0)] [] (by decide +kernel) rfl (pc' := 91) (ls' := [some (.ref 4), some (.int (nI i)), some (.int (nI j)), some (.int (nI 1)), some (.int (nI 1))]) (st' := [.int (nI 1)]) (M' := stm N 4 7 ((N 12 ((i + 1) * (q + 1) + (j + 1))) + (mtF N i j))) rfl ⟨trivial, rfl, trivial, trivial⟩ ?_
      refine g_if_eq (off := 48) (tgt := 139) (by decide +kernel) (by decide) (fun c3 => ?_) (fun c3 => ?_)
      · exact absurd c3 (by decide +kernel)
      · refine blk 1 [(.aload_n 0, 0, 0, 0), (.aload_n 0, 0, 0, 0), (.getfield 23, 1, 3, 0), (.iconst 1, 0, 0, (nI 1)), (.aaload, 0, 0, 0), (.aload_n 0, 0, 0, 0), (.iload_n 1, 0, 0, 0), (.iconst 1, 0, 0, (nI 1)), (.iadd, 0, 0, 0), (.iload_n 2, 0, 0, 0)] [1] (by decide +kernel) rfl (pc' := 106) (ls' := [some (.ref 4), some (.int (nI i)), some (.int (nI j)), some (.int (nI 1)), some (.int (nI 1))]) (st' := [.int (nI j), .int ((nI i) + (nI 1)), .ref 4, .ref 13, .ref 4]) (M' := stm N 4 7 ((N 12 ((i + 1) * (q + 1) + (j + 1))) + (mtF N i j))) rfl ⟨trivial, trivial, rfl, trivial, ⟨rfl, (by decide)⟩, trivial, trivial, trivial, trivial, trivial, trivial⟩ ?_
        refine g_callV (s_place (stm N 4 7 ((N 12 ((i + 1) * (q + 1) + (j + 1))) + (mtF N i j))) _ _) ok_X1_look_X1_place (by decide +kernel) rfl (c := 1) rfl (by decide) rfl (Nat.le_of_ble_eq_true rfl) (fun r M' h => ?_) rfl
        obtain ⟨hr, hM⟩ := h
        rw [hr, hM]
        show G _ 109 [some (.ref 4), some (.int (nI i)), some (.int (nI j)), some (.int (nI 1)), some (.int (nI 1))] [.int (((nI i) + (nI 1)) * (N 8 3 + nI 1) + (nI j)), .ref 13, .ref 4] (stm N 4 7 ((N 12 ((i + 1) * (q + 1) + (j + 1))) + (mtF N i j))) _
        refine blk 1 [(.iaload, 0, 0, 0), (.aload_n 0, 0, 0, 0), (.getfield 30, 1, 0, 0), (.getfield 96, 0, 2, 0), (.aload_n 0, 0, 0, 0), (.getfield 12, 1, 1, 0), (.getfield 99, 4, 1, 0), (.iload_n 1, 0, 0, 0), (.iaload, 0, 0, 0), (.imul, 0, 0, 0), (.aload_n 0, 0, 0, 0), (.getfield 18, 1, 2, 0), (.getfield 44, 4, 2, 0), (.imul, 0, 0, 0), (.isub, 0, 0, 0), (.putfield 87, 1, 8, 0), (.iload 4, 0, 0, 0)] [(i + 1) * (q + 1) + j, i] (by decide +kernel) rfl (pc' := 141) (ls' := [some (.ref 4), some (.int (nI i)), some (.int (nI j)), some (.int (nI 1)), some (.int (nI 1))]) (st' := [.int (nI 1)]) (M' := stm (stm N 4 7 ((N 12 ((i + 1) * (q + 1) + (j + 1))) + (mtF N i j))) 4 8 ((N 13 ((i + 1) * (q + 1) + j)) - (((N 2 2) * (N 7 i)) * (N 8 2)))) rfl ⟨⟨(by simp only [hq, nI_add, pk_mul, nI_s1, Nat.reduceAdd, Nat.reduceMul]), (plc_lt (p := p) (by omega) (by omega) h5)⟩, trivial, rfl, rfl, trivial, rfl, rfl, trivial, ⟨rfl, (by show _ < 48; omega)⟩, trivial, trivial, rfl, rfl, trivial, trivial, rfl, trivial, trivial⟩ ?_
        refine g_if_eq (off := 48) (tgt := 189) (by decide +kernel) (by decide) (fun c4 => ?_) (fun c4 => ?_)
        · exact absurd c4 (by decide +kernel)
        · refine blk 1 [(.aload_n 0, 0, 0, 0), (.aload_n 0, 0, 0, 0), (.getfield 23, 1, 3, 0), (.iconst 2, 0, 0, (nI 2)), (.aaload, 0, 0, 0), (.aload_n 0, 0, 0, 0), (.iload_n 1, 0, 0, 0), (.iload_n 2, 0, 0, 0), (.iconst 1, 0, 0, (nI 1)), (.iadd, 0, 0, 0)] [2] (by decide +kernel) rfl (pc' := 156) (ls' := [some (.ref 4), some (.int (nI i)), some (.int (nI j)), some (.int (nI 1)), some (.int (nI 1))]) (st' := [.int ((nI j) + (nI 1)), .int (nI i), .ref 4, .ref 14, .ref 4]) (M' := stm (stm N 4 7 ((N 12 ((i + 1) * (q + 1) + (j + 1))) + (mtF N i j))) 4 8 ((N 13 ((i + 1) * (q + 1) + j)) - (((N 2 2) * (N 7 i)) * (N 8 2)))) rfl ⟨trivial, trivial, rfl, trivial, ⟨rfl, (by decide)⟩, trivial, trivial, trivial, trivial, trivial, trivial⟩ ?_
          refine g_callV (s_place (stm (stm N 4 7 ((N 12 ((i + 1) * (q + 1) + (j + 1))) + (mtF N i j))) 4 8 ((N 13 ((i + 1) * (q + 1) + j)) - (((N 2 2) * (N 7 i)) * (N 8 2)))) _ _) ok_X1_look_X1_place (by decide +kernel) rfl (c := 1) rfl (by decide) rfl (Nat.le_of_ble_eq_true rfl) (fun r M' h => ?_) rfl
          obtain ⟨hr, hM⟩ := h
          rw [hr, hM]
          show G _ 159 [some (.ref 4), some (.int (nI i)), some (.int (nI j)), some (.int (nI 1)), some (.int (nI 1))] [.int ((nI i) * (N 8 3 + nI 1) + ((nI j) + (nI 1))), .ref 14, .ref 4] (stm (stm N 4 7 ((N 12 ((i + 1) * (q + 1) + (j + 1))) + (mtF N i j))) 4 8 ((N 13 ((i + 1) * (q + 1) + j)) - (((N 2 2) * (N 7 i)) * (N 8 2)))) _
          refine blk 1 [(.iaload, 0, 0, 0), (.aload_n 0, 0, 0, 0), (.getfield 30, 1, 0, 0), (.getfield 96, 0, 2, 0), (.aload_n 0, 0, 0, 0), (.getfield 18, 1, 2, 0), (.getfield 99, 4, 1, 0), (.iload_n 2, 0, 0, 0), (.iaload, 0, 0, 0), (.imul, 0, 0, 0), (.aload_n 0, 0, 0, 0), (.getfield 12, 1, 1, 0), (.getfield 44, 4, 2, 0), (.imul, 0, 0, 0), (.isub, 0, 0, 0), (.putfield 90, 1, 9, 0)] [i * (q + 1) + (j + 1), j] (by decide +kernel) rfl (pc' := 189) (ls' := [some (.ref 4), some (.int (nI i)), some (.int (nI j)), some (.int (nI 1)), some (.int (nI 1))]) (st' := []) (M' := stm (stm (stm N 4 7 ((N 12 ((i + 1) * (q + 1) + (j + 1))) + (mtF N i j))) 4 8 ((N 13 ((i + 1) * (q + 1) + j)) - (((N 2 2) * (N 7 i)) * (N 8 2)))) 4 9 ((N 14 (i * (q + 1) + (j + 1))) - (((N 2 2) * (N 10 j)) * (N 5 2)))) rfl ⟨⟨(by simp only [hq, nI_add, pk_mul, nI_s1, Nat.reduceAdd, Nat.reduceMul]), (plc_lt (p := p) (by omega) (by omega) h5)⟩, trivial, rfl, rfl, trivial, rfl, rfl, trivial, ⟨rfl, (by show _ < 48; omega)⟩, trivial, trivial, rfl, rfl, trivial, trivial, rfl, trivial⟩ ?_
          refine g_return (by decide +kernel) rfl ⟨rfl, ?_, ?_, ?_, ?_, ?_, fun z hz => ?_⟩
          · rw [lkB, if_pos ⟨ci, cj⟩]; show N 12 _ + mtF N i j = _; rw [h0 12 (by decide), mtF_congr (h0 6 (by decide)) (h0 9 (by decide)) (h0 3 (by decide))]
          · rw [lkL, if_pos ci]; show N 13 _ - N 2 2 * N 7 i * N 8 2 = _; rw [h0 13 (by decide), h0 2 (by decide), h0 7 (by decide), h0 8 (by decide)]
          · rw [lkR, if_pos cj]; show N 14 _ - N 2 2 * N 10 j * N 5 2 = _; rw [h0 14 (by decide), h0 2 (by decide), h0 10 (by decide), h0 5 (by decide)]
          · exact h45
          · exact h46
          · rw [stm_ne hz, stm_ne hz, stm_ne hz, h0 z hz]
theorem l_look10 {M N : Mem} {p q i j : Nat} (hm : mrg M p q) (hi : i ≤ p) (hj : j ≤ q) (ci : i < p) (cj : ¬ j < q) (h7 : N 4 7 = -1000000000) (h8 : N 4 8 = -1000000000) (h9 : N 4 9 = -1000000000) (h45 : N 4 5 = M 4 5) (h46 : N 4 6 = M 4 6) (h0 : ∀ z, z ≠ 4 → N z = M z) : G mX1_look 53 [some (.ref 4), some (.int (nI i)), some (.int (nI j)), some (.int (nI 1)), some (.int (nI 0))] [] N (lookP M p q i j) := by
  obtain ⟨h1, h2, h3, h4, h5⟩ := hm
  have hq : N 8 3 = nI q := by rw [h0 8 (by decide)]; exact h2
  refine blk 1 [(.iload_n 3, 0, 0, 0)] [] (by decide +kernel) rfl (pc' := 54) (ls' := [some (.ref 4), some (.int (nI i)), some (.int (nI j)), some (.int (nI 1)), some (.int (nI 0))]) (st' := [.int (nI 1)]) (M' := N) rfl ⟨trivial, trivial⟩ ?_
  refine g_if_eq (off := 36) (tgt := 90) (by decide +kernel) (by decide) (fun c1 => ?_) (fun c1 => ?_)
  · exact absurd c1 (by decide +kernel)
  · refine blk 1 [(.iload 4, 0, 0, 0)] [] (by decide +kernel) rfl (pc' := 59) (ls' := [some (.ref 4), some (.int (nI i)), some (.int (nI j)), some (.int (nI 1)), some (.int (nI 0))]) (st' := [.int (nI 0)]) (M' := N) rfl ⟨trivial, trivial⟩ ?_
    refine g_if_eq (off := 31) (tgt := 90) (by decide +kernel) (by decide) (fun c2 => ?_) (fun c2 => ?_)
    · refine blk 1 [(.iload_n 3, 0, 0, 0)] [] (by decide +kernel) rfl (pc' := 91) (ls' := [some (.ref 4), some (.int (nI i)), some (.int (nI j)), some (.int (nI 1)), some (.int (nI 0))]) (st' := [.int (nI 1)]) (M' := N) rfl ⟨trivial, trivial⟩ ?_
      refine g_if_eq (off := 48) (tgt := 139) (by decide +kernel) (by decide) (fun c3 => ?_) (fun c3 => ?_)
      · exact absurd c3 (by decide +kernel)
      · refine blk 1 [(.aload_n 0, 0, 0, 0), (.aload_n 0, 0, 0, 0), (.getfield 23, 1, 3, 0), (.iconst 1, 0, 0, (nI 1)), (.aaload, 0, 0, 0), (.aload_n 0, 0, 0, 0), (.iload_n 1, 0, 0, 0), (.iconst 1, 0, 0, (nI 1)), (.iadd, 0, 0, 0), (.iload_n 2, 0, 0, 0)] [1] (by decide +kernel) rfl (pc' := 106) (ls' := [some (.ref 4), some (.int (nI i)), some (.int (nI j)), some (.int (nI 1)), some (.int (nI 0))]) (st' := [.int (nI j), .int ((nI i) + (nI 1)), .ref 4, .ref 13, .ref 4]) (M' := N) rfl ⟨trivial, trivial, rfl, trivial, ⟨rfl, (by decide)⟩, trivial, trivial, trivial, trivial, trivial, trivial⟩ ?_
        refine g_callV (s_place N _ _) ok_X1_look_X1_place (by decide +kernel) rfl (c := 1) rfl (by decide) rfl (Nat.le_of_ble_eq_true rfl) (fun r M' h => ?_) rfl
        obtain ⟨hr, hM⟩ := h
        rw [hr, hM]
        show G _ 109 [some (.ref 4), some (.int (nI i)), some (.int (nI j)), some (.int (nI 1)), some (.int (nI 0))] [.int (((nI i) + (nI 1)) * (N 8 3 + nI 1) + (nI j)), .ref 13, .ref 4] N _
        refine blk 1 [(.iaload, 0, 0, 0), (.aload_n 0, 0, 0, 0), (.getfield 30, 1, 0, 0), (.getfield 96, 0, 2, 0), (.aload_n 0, 0, 0, 0), (.getfield 12, 1, 1, 0), (.getfield 99, 4, 1, 0), (.iload_n 1, 0, 0, 0), (.iaload, 0, 0, 0), (.imul, 0, 0, 0), (.aload_n 0, 0, 0, 0), (.getfield 18, 1, 2, 0), (.getfield 44, 4, 2, 0), (.imul, 0, 0, 0), (.isub, 0, 0, 0), (.putfield 87, 1, 8, 0), (.iload 4, 0, 0, 0)] [(i + 1) * (q + 1) + j, i] (by decide +kernel) rfl (pc' := 141) (ls' := [some (.ref 4), some (.int (nI i)), some (.int (nI j)), some (.int (nI 1)), some (.int (nI 0))]) (st' := [.int (nI 0)]) (M' := stm N 4 8 ((N 13 ((i + 1) * (q + 1) + j)) - (((N 2 2) * (N 7 i)) * (N 8 2)))) rfl ⟨⟨(by simp only [hq, nI_add, pk_mul, nI_s1, Nat.reduceAdd, Nat.reduceMul]), (plc_lt (p := p) (by omega) (by omega) h5)⟩, trivial, rfl, rfl, trivial, rfl, rfl, trivial, ⟨rfl, (by show _ < 48; omega)⟩, trivial, trivial, rfl, rfl, trivial, trivial, rfl, trivial, trivial⟩ ?_
        refine g_if_eq (off := 48) (tgt := 189) (by decide +kernel) (by decide) (fun c4 => ?_) (fun c4 => ?_)
        · refine g_return (by decide +kernel) rfl ⟨rfl, ?_, ?_, ?_, ?_, ?_, fun z hz => ?_⟩
          · rw [lkB, if_neg (fun z => by omega)]; exact h7
          · rw [lkL, if_pos ci]; show N 13 _ - N 2 2 * N 7 i * N 8 2 = _; rw [h0 13 (by decide), h0 2 (by decide), h0 7 (by decide), h0 8 (by decide)]
          · rw [lkR, if_neg (by omega)]; exact h9
          · exact h45
          · exact h46
          · rw [stm_ne hz, h0 z hz]
        · exact absurd (by decide +kernel) c4
    · exact absurd (by decide +kernel) c2
theorem l_look01 {M N : Mem} {p q i j : Nat} (hm : mrg M p q) (hi : i ≤ p) (hj : j ≤ q) (ci : ¬ i < p) (cj : j < q) (h7 : N 4 7 = -1000000000) (h8 : N 4 8 = -1000000000) (h9 : N 4 9 = -1000000000) (h45 : N 4 5 = M 4 5) (h46 : N 4 6 = M 4 6) (h0 : ∀ z, z ≠ 4 → N z = M z) : G mX1_look 53 [some (.ref 4), some (.int (nI i)), some (.int (nI j)), some (.int (nI 0)), some (.int (nI 1))] [] N (lookP M p q i j) := by
  obtain ⟨h1, h2, h3, h4, h5⟩ := hm
  have hq : N 8 3 = nI q := by rw [h0 8 (by decide)]; exact h2
  refine blk 1 [(.iload_n 3, 0, 0, 0)] [] (by decide +kernel) rfl (pc' := 54) (ls' := [some (.ref 4), some (.int (nI i)), some (.int (nI j)), some (.int (nI 0)), some (.int (nI 1))]) (st' := [.int (nI 0)]) (M' := N) rfl ⟨trivial, trivial⟩ ?_
  refine g_if_eq (off := 36) (tgt := 90) (by decide +kernel) (by decide) (fun c1 => ?_) (fun c1 => ?_)
  · refine blk 1 [(.iload_n 3, 0, 0, 0)] [] (by decide +kernel) rfl (pc' := 91) (ls' := [some (.ref 4), some (.int (nI i)), some (.int (nI j)), some (.int (nI 0)), some (.int (nI 1))]) (st' := [.int (nI 0)]) (M' := N) rfl ⟨trivial, trivial⟩ ?_
    refine g_if_eq (off := 48) (tgt := 139) (by decide +kernel) (by decide) (fun c2 => ?_) (fun c2 => ?_)
    · refine blk 1 [(.iload 4, 0, 0, 0)] [] (by decide +kernel) rfl (pc' := 141) (ls' := [some (.ref 4), some (.int (nI i)), some (.int (nI j)), some (.int (nI 0)), some (.int (nI 1))]) (st' := [.int (nI 1)]) (M' := N) rfl ⟨trivial, trivial⟩ ?_
      refine g_if_eq (off := 48) (tgt := 189) (by decide +kernel) (by decide) (fun c3 => ?_) (fun c3 => ?_)
      · exact absurd c3 (by decide +kernel)
      · refine blk 1 [(.aload_n 0, 0, 0, 0), (.aload_n 0, 0, 0, 0), (.getfield 23, 1, 3, 0), (.iconst 2, 0, 0, (nI 2)), (.aaload, 0, 0, 0), (.aload_n 0, 0, 0, 0), (.iload_n 1, 0, 0, 0), (.iload_n 2, 0, 0, 0), (.iconst 1, 0, 0, (nI 1)), (.iadd, 0, 0, 0)] [2] (by decide +kernel) rfl (pc' := 156) (ls' := [some (.ref 4), some (.int (nI i)), some (.int (nI j)), some (.int (nI 0)), some (.int (nI 1))]) (st' := [.int ((nI j) + (nI 1)), .int (nI i), .ref 4, .ref 14, .ref 4]) (M' := N) rfl ⟨trivial, trivial, rfl, trivial, ⟨rfl, (by decide)⟩, trivial, trivial, trivial, trivial, trivial, trivial⟩ ?_
        refine g_callV (s_place N _ _) ok_X1_look_X1_place (by decide +kernel) rfl (c := 1) rfl (by decide) rfl (Nat.le_of_ble_eq_true rfl) (fun r M' h => ?_) rfl
        obtain ⟨hr, hM⟩ := h
        rw [hr, hM]
        show G _ 159 [some (.ref 4), some (.int (nI i)), some (.int (nI j)), some (.int (nI 0)), some (.int (nI 1))] [.int ((nI i) * (N 8 3 + nI 1) + ((nI j) + (nI 1))), .ref 14, .ref 4] N _
        refine blk 1 [(.iaload, 0, 0, 0), (.aload_n 0, 0, 0, 0), (.getfield 30, 1, 0, 0), (.getfield 96, 0, 2, 0), (.aload_n 0, 0, 0, 0), (.getfield 18, 1, 2, 0), (.getfield 99, 4, 1, 0), (.iload_n 2, 0, 0, 0), (.iaload, 0, 0, 0), (.imul, 0, 0, 0), (.aload_n 0, 0, 0, 0), (.getfield 12, 1, 1, 0), (.getfield 44, 4, 2, 0), (.imul, 0, 0, 0), (.isub, 0, 0, 0), (.putfield 90, 1, 9, 0)] [i * (q + 1) + (j + 1), j] (by decide +kernel) rfl (pc' := 189) (ls' := [some (.ref 4), some (.int (nI i)), some (.int (nI j)), some (.int (nI 0)), some (.int (nI 1))]) (st' := []) (M' := stm N 4 9 ((N 14 (i * (q + 1) + (j + 1))) - (((N 2 2) * (N 10 j)) * (N 5 2)))) rfl ⟨⟨(by simp only [hq, nI_add, pk_mul, nI_s1, Nat.reduceAdd, Nat.reduceMul]), (plc_lt (p := p) (by omega) (by omega) h5)⟩, trivial, rfl, rfl, trivial, rfl, rfl, trivial, ⟨rfl, (by show _ < 48; omega)⟩, trivial, trivial, rfl, rfl, trivial, trivial, rfl, trivial⟩ ?_
        refine g_return (by decide +kernel) rfl ⟨rfl, ?_, ?_, ?_, ?_, ?_, fun z hz => ?_⟩
        · rw [lkB, if_neg (fun z => by omega)]; exact h7
        · rw [lkL, if_neg (by omega)]; exact h8
        · rw [lkR, if_pos cj]; show N 14 _ - N 2 2 * N 10 j * N 5 2 = _; rw [h0 14 (by decide), h0 2 (by decide), h0 10 (by decide), h0 5 (by decide)]
        · exact h45
        · exact h46
        · rw [stm_ne hz, h0 z hz]
    · exact absurd (by decide +kernel) c2
  · exact absurd (by decide +kernel) c1
theorem l_look00 {M N : Mem} {p q i j : Nat} (hm : mrg M p q) (hi : i ≤ p) (hj : j ≤ q) (ci : ¬ i < p) (cj : ¬ j < q) (h7 : N 4 7 = -1000000000) (h8 : N 4 8 = -1000000000) (h9 : N 4 9 = -1000000000) (h45 : N 4 5 = M 4 5) (h46 : N 4 6 = M 4 6) (h0 : ∀ z, z ≠ 4 → N z = M z) : G mX1_look 53 [some (.ref 4), some (.int (nI i)), some (.int (nI j)), some (.int (nI 0)), some (.int (nI 0))] [] N (lookP M p q i j) := by
  obtain ⟨h1, h2, h3, h4, h5⟩ := hm
  have hq : N 8 3 = nI q := by rw [h0 8 (by decide)]; exact h2
  refine blk 1 [(.iload_n 3, 0, 0, 0)] [] (by decide +kernel) rfl (pc' := 54) (ls' := [some (.ref 4), some (.int (nI i)), some (.int (nI j)), some (.int (nI 0)), some (.int (nI 0))]) (st' := [.int (nI 0)]) (M' := N) rfl ⟨trivial, trivial⟩ ?_
  refine g_if_eq (off := 36) (tgt := 90) (by decide +kernel) (by decide) (fun c1 => ?_) (fun c1 => ?_)
  · refine blk 1 [(.iload_n 3, 0, 0, 0)] [] (by decide +kernel) rfl (pc' := 91) (ls' := [some (.ref 4), some (.int (nI i)), some (.int (nI j)), some (.int (nI 0)), some (.int (nI 0))]) (st' := [.int (nI 0)]) (M' := N) rfl ⟨trivial, trivial⟩ ?_
    refine g_if_eq (off := 48) (tgt := 139) (by decide +kernel) (by decide) (fun c2 => ?_) (fun c2 => ?_)
    · refine blk 1 [(.iload 4, 0, 0, 0)] [] (by decide +kernel) rfl (pc' := 141) (ls' := [some (.ref 4), some (.int (nI i)), some (.int (nI j)), some (.int (nI 0)), some (.int (nI 0))]) (st' := [.int (nI 0)]) (M' := N) rfl ⟨trivial, trivial⟩ ?_
      refine g_if_eq (off := 48) (tgt := 189) (by decide +kernel) (by decide) (fun c3 => ?_) (fun c3 => ?_)
      · refine g_return (by decide +kernel) rfl ⟨rfl, ?_, ?_, ?_, ?_, ?_, fun z hz => ?_⟩
        · rw [lkB, if_neg (fun z => by omega)]; exact h7
        · rw [lkL, if_neg (by omega)]; exact h8
        · rw [lkR, if_neg (by omega)]; exact h9
        · exact h45
        · exact h46
        · rw [h0 z hz]
      · exact absurd (by decide +kernel) c3
    · exact absurd (by decide +kernel) c2
  · exact absurd (by decide +kernel) c1
theorem s_look (M : Mem) {p q i j : Nat} (hm : mrg M p q) (hi : i ≤ p) (hj : j ≤ q) : Spec mX1_look [.ref 4, .int (nI i), .int (nI j)] M (lookP M p q i j) := by
  have ⟨h1, h2, h3, h4, h5⟩ := hm
  refine Spec.of (by decide) (by simp [Value.category]) (Nat.le_of_ble_eq_true rfl) ?_
  refine blk 1 [(.iload_n 1, 0, 0, 0), (.aload_n 0, 0, 0, 0), (.getfield 12, 1, 1, 0), (.getfield 50, 4, 3, 0)] [] (by decide +kernel) rfl (pc' := 8) (ls' := [some (.ref 4), some (.int (nI i)), some (.int (nI j)), none, none]) (st' := [.int (M 5 3), .int (nI i)]) (M' := M) rfl ⟨trivial, trivial, rfl, rfl, trivial⟩ ?_
  refine g_icmp_ge (off := 7) (tgt := 15) (by decide +kernel) (by decide) (fun c1 => ?_) (fun c1 => ?_)
  · have nc1 : p ≤ i := (nI_leI (by omega) (by omega)).mp (by simpa only [h1, h2, nI_add, pk_mul, nI_s1, n0_lit] using c1)
    refine blk 1 [(.iconst 0, 0, 0, (nI 0)), (.istore_n 3, 0, 0, 0), (.iload_n 2, 0, 0, 0), (.aload_n 0, 0, 0, 0), (.getfield 18, 1, 2, 0), (.getfield 50, 4, 3, 0)] [] (by decide +kernel) rfl (pc' := 25) (ls' := [some (.ref 4), some (.int (nI i)), some (.int (nI j)), some (.int (nI 0)), none]) (st' := [.int (M 8 3), .int (nI j)]) (M' := M) rfl ⟨trivial, trivial, trivial, trivial, rfl, rfl, trivial⟩ ?_
    refine g_icmp_ge (off := 7) (tgt := 32) (by decide +kernel) (by decide) (fun c2 => ?_) (fun c2 => ?_)
    · have nc2 : q ≤ j := (nI_leI (by omega) (by omega)).mp (by simpa only [h1, h2, nI_add, pk_mul, nI_s1, n0_lit] using c2)
      refine blk 1 [(.iconst 0, 0, 0, (nI 0)), (.istore 4, 0, 0, 0), (.aload_n 0, 0, 0, 0), (.ldc 83, 0, 0, (-1000000000)), (.putfield 84, 1, 7, 0), (.aload_n 0, 0, 0, 0), (.ldc 83, 0, 0, (-1000000000)), (.putfield 87, 1, 8, 0), (.aload_n 0, 0, 0, 0), (.ldc 83, 0, 0, (-1000000000)), (.putfield 90, 1, 9, 0)] [] (by decide +kernel) rfl (pc' := 53) (ls' := [some (.ref 4), some (.int (nI i)), some (.int (nI j)), some (.int (nI 0)), some (.int (nI 0))]) (st' := []) (M' := stm (stm (stm M 4 7 (-1000000000)) 4 8 (-1000000000)) 4 9 (-1000000000)) rfl ⟨trivial, trivial, trivial, trivial, rfl, trivial, trivial, rfl, trivial, trivial, rfl, trivial⟩ ?_
      exact l_look00 hm hi hj (by omega) (by omega) rfl rfl rfl rfl rfl (fun z hz => by rw [stm_ne hz, stm_ne hz, stm_ne hz])
    · have nc2 : j < q := by
        have z : ¬ nI q ≤ nI j := by simpa only [h1, h2, nI_add, pk_mul, nI_s1, n0_lit] using c2
        rw [nI_leI (by omega) (by omega)] at z
        omega
      refine blk 1 [(.iconst 1, 0, 0, (nI 1)), (.goto (4), 33, 0, 0), (.istore 4, 0, 0, 0), (.aload_n 0, 0, 0, 0), (.ldc 83, 0, 0, (-1000000000)), (.putfield 84, 1, 7, 0), (.aload_n 0, 0, 0, 0), (.ldc 83, 0, 0, (-1000000000)), (.putfield 87, 1, 8, 0), (.aload_n 0, 0, 0, 0), (.ldc 83, 0, 0, (-1000000000)), (.putfield 90, 1, 9, 0)] [] (by decide +kernel) rfl (pc' := 53) (ls' := [some (.ref 4), some (.int (nI i)), some (.int (nI j)), some (.int (nI 0)), some (.int (nI 1))]) (st' := []) (M' := stm (stm (stm M 4 7 (-1000000000)) 4 8 (-1000000000)) 4 9 (-1000000000)) rfl ⟨trivial, trivial, trivial, trivial, trivial, rfl, trivial, trivial, rfl, trivial, trivial, rfl, trivial⟩ ?_
      exact l_look01 hm hi hj (by omega) (by omega) rfl rfl rfl rfl rfl (fun z hz => by rw [stm_ne hz, stm_ne hz, stm_ne hz])
  · have nc1 : i < p := by
      have z : ¬ nI p ≤ nI i := by simpa only [h1, h2, nI_add, pk_mul, nI_s1, n0_lit] using c1
      rw [nI_leI (by omega) (by omega)] at z
      omega
    refine blk 1 [(.iconst 1, 0, 0, (nI 1)), (.goto (4), 16, 0, 0), (.istore_n 3, 0, 0, 0), (.iload_n 2, 0, 0, 0), (.aload_n 0, 0, 0, 0), (.getfield 18, 1, 2, 0), (.getfield 50, 4, 3, 0)] [] (by decide +kernel) rfl (pc' := 25) (ls' := [some (.ref 4), some (.int (nI i)), some (.int (nI j)), some (.int (nI 1)), none]) (st' := [.int (M 8 3), .int (nI j)]) (M' := M) rfl ⟨trivial, trivial, trivial, trivial, trivial, rfl, rfl, trivial⟩ ?_
    refine g_icmp_ge (off := 7) (tgt := 32) (by decide +kernel) (by decide) (fun c3 => ?_) (fun c3 => ?_)
    · have nc3 : q ≤ j := (nI_leI (by omega) (by omega)).mp (by simpa only [h1, h2, nI_add, pk_mul, nI_s1, n0_lit] using c3)
      refine blk 1 [(.iconst 0, 0, 0, (nI 0)), (.istore 4, 0, 0, 0), (.aload_n 0, 0, 0, 0), (.ldc 83, 0, 0, (-1000000000)), (.putfield 84, 1, 7, 0), (.aload_n 0, 0, 0, 0), (.ldc 83, 0, 0, (-1000000000)), (.putfield 87, 1, 8, 0), (.aload_n 0, 0, 0, 0), (.ldc 83, 0, 0, (-1000000000)), (.putfield 90, 1, 9, 0)] [] (by decide +kernel) rfl (pc' := 53) (ls' := [some (.ref 4), some (.int (nI i)), some (.int (nI j)), some (.int (nI 1)), some (.int (nI 0))]) (st' := []) (M' := stm (stm (stm M 4 7 (-1000000000)) 4 8 (-1000000000)) 4 9 (-1000000000)) rfl ⟨trivial, trivial, trivial, trivial, rfl, trivial, trivial, rfl, trivial, trivial, rfl, trivial⟩ ?_
      exact l_look10 hm hi hj (by omega) (by omega) rfl rfl rfl rfl rfl (fun z hz => by rw [stm_ne hz, stm_ne hz, stm_ne hz])
    · have nc3 : j < q := by
        have z : ¬ nI q ≤ nI j := by simpa only [h1, h2, nI_add, pk_mul, nI_s1, n0_lit] using c3
        rw [nI_leI (by omega) (by omega)] at z
        omega
      refine blk 1 [(.iconst 1, 0, 0, (nI 1)), (.goto (4), 33, 0, 0), (.istore 4, 0, 0, 0), (.aload_n 0, 0, 0, 0), (.ldc 83, 0, 0, (-1000000000)), (.putfield 84, 1, 7, 0), (.aload_n 0, 0, 0, 0), (.ldc 83, 0, 0, (-1000000000)), (.putfield 87, 1, 8, 0), (.aload_n 0, 0, 0, 0), (.ldc 83, 0, 0, (-1000000000)), (.putfield 90, 1, 9, 0)] [] (by decide +kernel) rfl (pc' := 53) (ls' := [some (.ref 4), some (.int (nI i)), some (.int (nI j)), some (.int (nI 1)), some (.int (nI 1))]) (st' := []) (M' := stm (stm (stm M 4 7 (-1000000000)) 4 8 (-1000000000)) 4 9 (-1000000000)) rfl ⟨trivial, trivial, trivial, trivial, trivial, rfl, trivial, trivial, rfl, trivial, trivial, rfl, trivial⟩ ?_
      exact l_look11 hm hi hj (by omega) (by omega) rfl rfl rfl rfl rfl (fun z hz => by rw [stm_ne hz, stm_ne hz, stm_ne hz])
end
section
/-! Merger.fill -/
theorem al12 {l : Nat} (h : l < 3) : al (12 + l) = 925 := (by decide : ∀ l, l < 3 → al (12 + l) = 925) l h
/-- the worth of the rest from i, j on, after a step l -/
def dpv (M : Mem) (p q i j l : Nat) : Int32 := if i = p ∧ j = q then 0 else waV (lkB M p q i j) (lkL M p q i j) (lkR M p q i j) (M 4 6) l (chV (lkB M p q i j) (lkL M p q i j) (lkR M p q i j) (M 4 6) l)
def filP (M : Mem) (p q i j : Nat) : Option Value → Mem → Prop := fun r N => r = none ∧ (∀ l, l < 3 → N (12 + l) (i * (q + 1) + j) = dpv M p q i j l) ∧ (∀ l k, l < 3 → k ≠ i * (q + 1) + j → N (12 + l) k = M (12 + l) k) ∧ N 4 5 = M 4 5 ∧ N 4 6 = M 4 6 ∧ ∀ z, z ≠ 4 → (z < 12 ∨ 14 < z) → N z = M z
theorem l_fill1 {M L : Mem} {p q i j : Nat} (hm : mrg M p q) (hi : i ≤ p) (hj : j ≤ q) (he : (i = p ∧ j = q)) (l7 : L 4 7 = lkB M p q i j) (l8 : L 4 8 = lkL M p q i j) (l9 : L 4 9 = lkR M p q i j) (l5 : L 4 5 = M 4 5) (l6 : L 4 6 = M 4 6) (lz : ∀ z, z ≠ 4 → L z = M z) : ∀ d l N, d = 3 - l → l ≤ 3 → (∀ a, a < l → N (12 + a) (i * (q + 1) + j) = dpv M p q i j a) → (∀ a k, a < 3 → k ≠ i * (q + 1) + j → N (12 + a) k = L (12 + a) k) → (∀ z, (z < 12 ∨ 14 < z) → N z = L z) → G mX1_fill 37 [some (.ref 4), some (.int (nI i)), some (.int (nI j)), some (.int (nI 1)), some (.int (nI l))] [] N (filP M p q i j) := by
  have ⟨m1, m2, m3, m4, h5⟩ := hm
  intro d
  induction d using Nat.strongRecOn with
  | ind d ih =>
    intro l N hd hl h1' h2' h0
    have hq : N 8 3 = nI q := by rw [h0 8 (by omega), lz 8 (by decide)]; exact m2
    refine blk 1 [(.iload 4, 0, 0, 0), (.iconst 2, 0, 0, (nI 2))] [] (by decide +kernel) rfl (pc' := 40) (ls' := [some (.ref 4), some (.int (nI i)), some (.int (nI j)), some (.int (nI 1)), some (.int (nI l))]) (st' := [.int (nI 2), .int (nI l)]) (M' := N) rfl ⟨trivial, trivial, trivial⟩ ?_
    refine g_icmp_gt (off := 43) (tgt := 83) (by decide +kernel) (by decide) (fun c1 => ?_) (fun c1 => ?_)
    · have nc1 : 2 < l := (nI_ltI (by omega) (by omega)).mp (by simpa only [hq, nI_add, pk_mul, nI_s1, n0_lit] using c1)
      have el : l = 3 := by omega
      subst el
      refine g_return (by decide +kernel) rfl ⟨rfl, h1', fun a k ha hk => ?_, ?_, ?_, fun z h4 h5 => ?_⟩
      · rw [h2' a k ha hk, lz _ (by omega)]
      · rw [h0 4 (by omega)]; exact l5
      · rw [h0 4 (by omega)]; exact l6
      · rw [h0 z h5, lz z h4]
    · have nc1 : l ≤ 2 := by
        have z : ¬ nI 2 < nI l := by simpa only [hq, nI_add, pk_mul, nI_s1, n0_lit] using c1
        rw [nI_ltI (by omega) (by omega)] at z
        omega
      refine blk 1 [(.aload_n 0, 0, 0, 0), (.getfield 23, 1, 3, 0), (.iload 4, 0, 0, 0), (.aaload, 0, 0, 0), (.aload_n 0, 0, 0, 0), (.iload_n 1, 0, 0, 0), (.iload_n 2, 0, 0, 0)] [l] (by decide +kernel) rfl (pc' := 53) (ls' := [some (.ref 4), some (.int (nI i)), some (.int (nI j)), some (.int (nI 1)), some (.int (nI l))]) (st' := [.int (nI j), .int (nI i), .ref 4, .ref (12 + l)]) (M' := N) rfl ⟨trivial, rfl, trivial, ⟨rfl, (by show _ < 3; omega)⟩, trivial, trivial, trivial, trivial⟩ ?_
      refine g_callV (s_place N _ _) ok_X1_fill_X1_place (by decide +kernel) rfl (c := 1) rfl (by decide) rfl (Nat.le_of_ble_eq_true rfl) (fun r M' h => ?_) rfl
      obtain ⟨hr, hM⟩ := h
      rw [hr, hM]
      show G _ 56 [some (.ref 4), some (.int (nI i)), some (.int (nI j)), some (.int (nI 1)), some (.int (nI l))] [.int (nI i * (N 8 3 + nI 1) + nI j), .ref (12 + l)] N _
      refine blk 1 [(.iload_n 3, 0, 0, 0)] [] (by decide +kernel) rfl (pc' := 57) (ls' := [some (.ref 4), some (.int (nI i)), some (.int (nI j)), some (.int (nI 1)), some (.int (nI l))]) (st' := [.int (nI 1), .int (nI i * (N 8 3 + nI 1) + nI j), .ref (12 + l)]) (M' := N) rfl ⟨trivial, trivial⟩ ?_
      refine g_if_eq (off := 7) (tgt := 64) (by decide +kernel) (by decide) (fun c2 => ?_) (fun c2 => ?_)
      · exact absurd c2 (by decide +kernel)
      · refine blk 1 [(.iconst 0, 0, 0, (nI 0)), (.goto (15), 76, 0, 0), (.iastore, 0, 0, 0), (.iinc 4 1, 0, 0, (nI 1)), (.goto (-43), 37, 0, 0)] [i * (q + 1) + j] (by decide +kernel) rfl (pc' := 37) (ls' := [some (.ref 4), some (.int (nI i)), some (.int (nI j)), some (.int (nI 1)), some (.int (nI l + nI 1))]) (st' := []) (M' := stm N (12 + l) (i * (q + 1) + j) (nI 0)) rfl ⟨trivial, trivial, ⟨(by simp only [hq, nI_add, pk_mul, nI_s1, Nat.reduceAdd, Nat.reduceMul]), (Nat.lt_of_lt_of_eq (plc_lt (p := p) hi hj h5) (al12 (l := l) (by omega)).symm), by show 12 + l < 96; omega⟩, trivial, trivial, trivial⟩ ?_
        refine G.sub (ls' := [some (.ref 4), some (.int (nI i)), some (.int (nI j)), some (.int (nI 1)), some (.int (nI (l + 1)))]) ?_ ⟨rfl, rfl, rfl, rfl, congrArg (fun z => some (Value.int z)) (by simp only [nI_add, nI_s1]), trivial⟩
        refine ih (d - 1) (by omega) (l + 1) _ (by omega) (by omega) (fun a ha => ?_) (fun a k ha hk => ?_) (fun z hz => ?_)
        · by_cases ea : a = l
          · subst ea; rw [stm_self]; rw [dpv, if_pos he]; exact nI_0
          · rw [stm_ne (by omega)]; exact h1' a (by omega)
        · by_cases ea : a = l
          · subst ea; rw [stm_off hk]; exact h2' a k (by omega) hk
          · rw [stm_ne (by omega)]; exact h2' a k ha hk
        · rw [stm_ne (by omega)]; exact h0 z hz
theorem l_fill0 {M L : Mem} {p q i j : Nat} (hm : mrg M p q) (hi : i ≤ p) (hj : j ≤ q) (he : ¬ (i = p ∧ j = q)) (l7 : L 4 7 = lkB M p q i j) (l8 : L 4 8 = lkL M p q i j) (l9 : L 4 9 = lkR M p q i j) (l5 : L 4 5 = M 4 5) (l6 : L 4 6 = M 4 6) (lz : ∀ z, z ≠ 4 → L z = M z) : ∀ d l N, d = 3 - l → l ≤ 3 → (∀ a, a < l → N (12 + a) (i * (q + 1) + j) = dpv M p q i j a) → (∀ a k, a < 3 → k ≠ i * (q + 1) + j → N (12 + a) k = L (12 + a) k) → (∀ z, (z < 12 ∨ 14 < z) → N z = L z) → G mX1_fill 37 [some (.ref 4), some (.int (nI i)), some (.int (nI j)), some (.int (nI 0)), some (.int (nI l))] [] N (filP M p q i j) := by
  have ⟨m1, m2, m3, m4, h5⟩ := hm
  intro d
  induction d using Nat.strongRecOn with
  | ind d ih =>
    intro l N hd hl h1' h2' h0
    have hq : N 8 3 = nI q := by rw [h0 8 (by omega), lz 8 (by decide)]; exact m2
    refine blk 1 [(.iload 4, 0, 0, 0), (.iconst 2, 0, 0, (nI 2))] [] (by decide +kernel) rfl (pc' := 40) (ls' := [some (.ref 4), some (.int (nI i)), some (.int (nI j)), some (.int (nI 0)), some (.int (nI l))]) (st' := [.int (nI 2), .int (nI l)]) (M' := N) rfl ⟨trivial, trivial, trivial⟩ ?_
    refine g_icmp_gt (off := 43) (tgt := 83) (by decide +kernel) (by decide) (fun c1 => ?_) (fun c1 => ?_)
    · have nc1 : 2 < l := (nI_ltI (by omega) (by omega)).mp (by simpa only [hq, nI_add, pk_mul, nI_s1, n0_lit] using c1)
      have el : l = 3 := by omega
      subst el
      refine g_return (by decide +kernel) rfl ⟨rfl, h1', fun a k ha hk => ?_, ?_, ?_, fun z h4 h5 => ?_⟩
      · rw [h2' a k ha hk, lz _ (by omega)]
      · rw [h0 4 (by omega)]; exact l5
      · rw [h0 4 (by omega)]; exact l6
      · rw [h0 z h5, lz z h4]
    · have nc1 : l ≤ 2 := by
        have z : ¬ nI 2 < nI l := by simpa only [hq, nI_add, pk_mul, nI_s1, n0_lit] using c1
        rw [nI_ltI (by omega) (by omega)] at z
        omega
      refine blk 1 [(.aload_n 0, 0, 0, 0), (.getfield 23, 1, 3, 0), (.iload 4, 0, 0, 0), (.aaload, 0, 0, 0), (.aload_n 0, 0, 0, 0), (.iload_n 1, 0, 0, 0), (.iload_n 2, 0, 0, 0)] [l] (by decide +kernel) rfl (pc' := 53) (ls' := [some (.ref 4), some (.int (nI i)), some (.int (nI j)), some (.int (nI 0)), some (.int (nI l))]) (st' := [.int (nI j), .int (nI i), .ref 4, .ref (12 + l)]) (M' := N) rfl ⟨trivial, rfl, trivial, ⟨rfl, (by show _ < 3; omega)⟩, trivial, trivial, trivial, trivial⟩ ?_
      refine g_callV (s_place N _ _) ok_X1_fill_X1_place (by decide +kernel) rfl (c := 1) rfl (by decide) rfl (Nat.le_of_ble_eq_true rfl) (fun r M' h => ?_) rfl
      obtain ⟨hr, hM⟩ := h
      rw [hr, hM]
      show G _ 56 [some (.ref 4), some (.int (nI i)), some (.int (nI j)), some (.int (nI 0)), some (.int (nI l))] [.int (nI i * (N 8 3 + nI 1) + nI j), .ref (12 + l)] N _
      refine blk 1 [(.iload_n 3, 0, 0, 0)] [] (by decide +kernel) rfl (pc' := 57) (ls' := [some (.ref 4), some (.int (nI i)), some (.int (nI j)), some (.int (nI 0)), some (.int (nI l))]) (st' := [.int (nI 0), .int (nI i * (N 8 3 + nI 1) + nI j), .ref (12 + l)]) (M' := N) rfl ⟨trivial, trivial⟩ ?_
      refine g_if_eq (off := 7) (tgt := 64) (by decide +kernel) (by decide) (fun c2 => ?_) (fun c2 => ?_)
      · refine blk 1 [(.aload_n 0, 0, 0, 0), (.iload 4, 0, 0, 0), (.aload_n 0, 0, 0, 0), (.iload 4, 0, 0, 0)] [] (by decide +kernel) rfl (pc' := 70) (ls' := [some (.ref 4), some (.int (nI i)), some (.int (nI j)), some (.int (nI 0)), some (.int (nI l))]) (st' := [.int (nI l), .ref 4, .int (nI l), .ref 4, .int (nI i * (N 8 3 + nI 1) + nI j), .ref (12 + l)]) (M' := N) rfl ⟨trivial, trivial, trivial, trivial, trivial⟩ ?_
        refine g_callV (s_choose N (l := l) (by omega)) ok_X1_fill_X1_choose (by decide +kernel) rfl (c := 1) rfl (by decide) rfl (Nat.le_of_ble_eq_true rfl) (fun r M' h => ?_) rfl
        obtain ⟨hr, hM⟩ := h
        rw [hr, hM]
        show G _ 73 [some (.ref 4), some (.int (nI i)), some (.int (nI j)), some (.int (nI 0)), some (.int (nI l))] [.int (nI (chF N l)), .int (nI l), .ref 4, .int (nI i * (N 8 3 + nI 1) + nI j), .ref (12 + l)] N _
        refine g_callV (s_worthAfter N (l := l) (s := chF N l) (by omega) (chV_le _ _ _ _ _)) ok_X1_fill_X1_worthAfter (by decide +kernel) rfl (c := 1) rfl (by decide) rfl (Nat.le_of_ble_eq_true rfl) (fun r M' h => ?_) rfl
        obtain ⟨hr, hM⟩ := h
        rw [hr, hM]
        show G _ 76 [some (.ref 4), some (.int (nI i)), some (.int (nI j)), some (.int (nI 0)), some (.int (nI l))] [.int (waF N l (chF N l)), .int (nI i * (N 8 3 + nI 1) + nI j), .ref (12 + l)] N _
        refine blk 1 [(.iastore, 0, 0, 0), (.iinc 4 1, 0, 0, (nI 1)), (.goto (-43), 37, 0, 0)] [i * (q + 1) + j] (by decide +kernel) rfl (pc' := 37) (ls' := [some (.ref 4), some (.int (nI i)), some (.int (nI j)), some (.int (nI 0)), some (.int (nI l + nI 1))]) (st' := []) (M' := stm N (12 + l) (i * (q + 1) + j) (waF N l (chF N l))) rfl ⟨⟨(by simp only [hq, nI_add, pk_mul, nI_s1, Nat.reduceAdd, Nat.reduceMul]), (Nat.lt_of_lt_of_eq (plc_lt (p := p) hi hj h5) (al12 (l := l) (by omega)).symm), by show 12 + l < 96; omega⟩, trivial, trivial, trivial⟩ ?_
        refine G.sub (ls' := [some (.ref 4), some (.int (nI i)), some (.int (nI j)), some (.int (nI 0)), some (.int (nI (l + 1)))]) ?_ ⟨rfl, rfl, rfl, rfl, congrArg (fun z => some (Value.int z)) (by simp only [nI_add, nI_s1]), trivial⟩
        refine ih (d - 1) (by omega) (l + 1) _ (by omega) (by omega) (fun a ha => ?_) (fun a k ha hk => ?_) (fun z hz => ?_)
        · by_cases ea : a = l
          · subst ea; rw [stm_self]; rw [dpv, if_neg he]; unfold waF chF; rw [h0 4 (by omega), l7, l8, l9, l6]
          · rw [stm_ne (by omega)]; exact h1' a (by omega)
        · by_cases ea : a = l
          · subst ea; rw [stm_off hk]; exact h2' a k (by omega) hk
          · rw [stm_ne (by omega)]; exact h2' a k ha hk
        · rw [stm_ne (by omega)]; exact h0 z hz
      · exact absurd (by decide +kernel) c2
theorem s_mfill (M : Mem) {p q i j : Nat} (hm : mrg M p q) (hi : i ≤ p) (hj : j ≤ q) : Spec mX1_fill [.ref 4, .int (nI i), .int (nI j)] M (filP M p q i j) := by
  have ⟨m1, m2, m3, m4, h5⟩ := hm
  refine Spec.of (by decide) (by simp [Value.category]) (Nat.le_of_ble_eq_true rfl) ?_
  refine blk 1 [(.iload_n 1, 0, 0, 0), (.aload_n 0, 0, 0, 0), (.getfield 12, 1, 1, 0), (.getfield 50, 4, 3, 0)] [] (by decide +kernel) rfl (pc' := 8) (ls' := [some (.ref 4), some (.int (nI i)), some (.int (nI j)), none, none]) (st' := [.int (M 5 3), .int (nI i)]) (M' := M) rfl ⟨trivial, trivial, rfl, rfl, trivial⟩ ?_
  refine g_icmp_ne (off := 18) (tgt := 26) (by decide +kernel) (by decide) (fun c1 => ?_) (fun c1 => ?_)
  · have nc1 : i ≠ p := by
      have z : ¬ nI i = nI p := by simpa only [m1, m2, nI_add, pk_mul, nI_s1, n0_lit] using c1
      rw [nI_eq (by omega) (by omega)] at z
      omega
    refine blk 1 [(.iconst 0, 0, 0, (nI 0)), (.istore_n 3, 0, 0, 0), (.aload_n 0, 0, 0, 0), (.iload_n 1, 0, 0, 0), (.iload_n 2, 0, 0, 0)] [] (by decide +kernel) rfl (pc' := 31) (ls' := [some (.ref 4), some (.int (nI i)), some (.int (nI j)), some (.int (nI 0)), none]) (st' := [.int (nI j), .int (nI i), .ref 4]) (M' := M) rfl ⟨trivial, trivial, trivial, trivial, trivial, trivial⟩ ?_
    refine g_callV (s_look M hm hi hj) ok_X1_fill_X1_look (by decide +kernel) rfl (c := 1) rfl (by decide) rfl (Nat.le_of_ble_eq_true rfl) (fun r L h => ?_) rfl
    obtain ⟨hr, l7, l8, l9, l5, l6, lz⟩ := h
    rw [hr]
    show G _ 34 [some (.ref 4), some (.int (nI i)), some (.int (nI j)), some (.int (nI 0)), none] [] L _
    refine blk 1 [(.iconst 0, 0, 0, (nI 0)), (.istore 4, 0, 0, 0)] [] (by decide +kernel) rfl (pc' := 37) (ls' := [some (.ref 4), some (.int (nI i)), some (.int (nI j)), some (.int (nI 0)), some (.int (nI 0))]) (st' := []) (M' := L) rfl ⟨trivial, trivial, trivial⟩ ?_
    exact l_fill0 hm hi hj (by omega) l7 l8 l9 l5 l6 lz _ 0 L rfl (by omega) (fun a h => absurd h (by omega)) (fun a k _ _ => rfl) (fun z _ => rfl)
  · have nc1 : i = p := (nI_eq (by omega) (by omega)).mp (by simpa only [m1, m2, nI_add, pk_mul, nI_s1, n0_lit] using c1)
    refine blk 1 [(.iload_n 2, 0, 0, 0), (.aload_n 0, 0, 0, 0), (.getfield 18, 1, 2, 0), (.getfield 50, 4, 3, 0)] [] (by decide +kernel) rfl (pc' := 19) (ls' := [some (.ref 4), some (.int (nI i)), some (.int (nI j)), none, none]) (st' := [.int (M 8 3), .int (nI j)]) (M' := M) rfl ⟨trivial, trivial, rfl, rfl, trivial⟩ ?_
    refine g_icmp_ne (off := 7) (tgt := 26) (by decide +kernel) (by decide) (fun c2 => ?_) (fun c2 => ?_)
    · have nc2 : j ≠ q := by
        have z : ¬ nI j = nI q := by simpa only [m1, m2, nI_add, pk_mul, nI_s1, n0_lit] using c2
        rw [nI_eq (by omega) (by omega)] at z
        omega
      refine blk 1 [(.iconst 0, 0, 0, (nI 0)), (.istore_n 3, 0, 0, 0), (.aload_n 0, 0, 0, 0), (.iload_n 1, 0, 0, 0), (.iload_n 2, 0, 0, 0)] [] (by decide +kernel) rfl (pc' := 31) (ls' := [some (.ref 4), some (.int (nI i)), some (.int (nI j)), some (.int (nI 0)), none]) (st' := [.int (nI j), .int (nI i), .ref 4]) (M' := M) rfl ⟨trivial, trivial, trivial, trivial, trivial, trivial⟩ ?_
      refine g_callV (s_look M hm hi hj) ok_X1_fill_X1_look (by decide +kernel) rfl (c := 1) rfl (by decide) rfl (Nat.le_of_ble_eq_true rfl) (fun r L h => ?_) rfl
      obtain ⟨hr, l7, l8, l9, l5, l6, lz⟩ := h
      rw [hr]
      show G _ 34 [some (.ref 4), some (.int (nI i)), some (.int (nI j)), some (.int (nI 0)), none] [] L _
      refine blk 1 [(.iconst 0, 0, 0, (nI 0)), (.istore 4, 0, 0, 0)] [] (by decide +kernel) rfl (pc' := 37) (ls' := [some (.ref 4), some (.int (nI i)), some (.int (nI j)), some (.int (nI 0)), some (.int (nI 0))]) (st' := []) (M' := L) rfl ⟨trivial, trivial, trivial⟩ ?_
      exact l_fill0 hm hi hj (by omega) l7 l8 l9 l5 l6 lz _ 0 L rfl (by omega) (fun a h => absurd h (by omega)) (fun a k _ _ => rfl) (fun z _ => rfl)
    · have nc2 : j = q := (nI_eq (by omega) (by omega)).mp (by simpa only [m1, m2, nI_add, pk_mul, nI_s1, n0_lit] using c2)
      refine blk 1 [(.iconst 1, 0, 0, (nI 1)), (.goto (4), 27, 0, 0), (.istore_n 3, 0, 0, 0), (.aload_n 0, 0, 0, 0), (.iload_n 1, 0, 0, 0), (.iload_n 2, 0, 0, 0)] [] (by decide +kernel) rfl (pc' := 31) (ls' := [some (.ref 4), some (.int (nI i)), some (.int (nI j)), some (.int (nI 1)), none]) (st' := [.int (nI j), .int (nI i), .ref 4]) (M' := M) rfl ⟨trivial, trivial, trivial, trivial, trivial, trivial, trivial⟩ ?_
      refine g_callV (s_look M hm hi hj) ok_X1_fill_X1_look (by decide +kernel) rfl (c := 1) rfl (by decide) rfl (Nat.le_of_ble_eq_true rfl) (fun r L h => ?_) rfl
      obtain ⟨hr, l7, l8, l9, l5, l6, lz⟩ := h
      rw [hr]
      show G _ 34 [some (.ref 4), some (.int (nI i)), some (.int (nI j)), some (.int (nI 1)), none] [] L _
      refine blk 1 [(.iconst 0, 0, 0, (nI 0)), (.istore 4, 0, 0, 0)] [] (by decide +kernel) rfl (pc' := 37) (ls' := [some (.ref 4), some (.int (nI i)), some (.int (nI j)), some (.int (nI 1)), some (.int (nI 0))]) (st' := []) (M' := L) rfl ⟨trivial, trivial, trivial⟩ ?_
      exact l_fill1 hm hi hj (by omega) l7 l8 l9 l5 l6 lz _ 0 L rfl (by omega) (fun a h => absurd h (by omega)) (fun a k _ _ => rfl) (fun z _ => rfl)
end
section
/-! Merger.walk -/
/-- the step that is taken at i, j after a step l -/
def chM (M : Mem) (p q i j l : Nat) : Nat := chV (lkB M p q i j) (lkL M p q i j) (lkR M p q i j) (M 4 6) l
/-- where the walk is after n steps, and the last step -/
def wst (M : Mem) (p q : Nat) : Nat → Nat × Nat × Nat
  | 0 => (0, 0, 0)
  | n + 1 => ((wst M p q n).1 + (if chM M p q (wst M p q n).1 (wst M p q n).2.1 (wst M p q n).2.2 = 2 then 0 else 1), (wst M p q n).2.1 + (if chM M p q (wst M p q n).1 (wst M p q n).2.1 (wst M p q n).2.2 = 1 then 0 else 1), chM M p q (wst M p q n).1 (wst M p q n).2.1 (wst M p q n).2.2)
/-- no step is taken that cannot be -/
def chOK (M : Mem) (p q : Nat) : Prop := ∀ i j l, i ≤ p → j ≤ q → (i < p ∨ j < q) → l ≤ 2 → (chM M p q i j l = 0 → i < p ∧ j < q) ∧ (chM M p q i j l = 1 → i < p) ∧ (chM M p q i j l = 2 → j < q)
def walkP (M : Mem) (p q : Nat) : Option Value → Mem → Prop := fun r N => r = none ∧ ∃ n, n ≤ p + q ∧ (wst M p q n).1 = p ∧ (wst M p q n).2.1 = q ∧ (∀ k, k < n → ((wst M p q k).1 ≤ p ∧ (wst M p q k).2.1 ≤ q ∧ ((wst M p q k).1 < p ∨ (wst M p q k).2.1 < q))) ∧ N 4 5 = nI n ∧ (∀ k, k < n → N 15 k = nI (wst M p q (k + 1)).2.2) ∧ N 4 6 = M 4 6 ∧ ∀ z, z ≠ 4 → z ≠ 15 → N z = M z
theorem lk_congr {M N : Mem} {p q i j : Nat} (h : ∀ z, z ≠ 4 → z ≠ 15 → N z = M z) : lkB N p q i j = lkB M p q i j ∧ lkL N p q i j = lkL M p q i j ∧ lkR N p q i j = lkR M p q i j := by
  unfold lkB lkL lkR
  rw [h 12 (by decide) (by decide), h 13 (by decide) (by decide), h 14 (by decide) (by decide), h 2 (by decide) (by decide), h 7 (by decide) (by decide), h 8 (by decide) (by decide), h 10 (by decide) (by decide), h 5 (by decide) (by decide), mtF_congr (h 6 (by decide) (by decide)) (h 9 (by decide) (by decide)) (h 3 (by decide) (by decide))]
  exact ⟨rfl, rfl, rfl⟩
theorem l_walk {M : Mem} {p q : Nat} (hm : mrg M p q) (hpq : p + q ≤ 60) (hav : chOK M p q) : ∀ d n i j l N, d = p + q - (i + j) → i ≤ p → j ≤ q → l ≤ 2 → i = (wst M p q n).1 → j = (wst M p q n).2.1 → l = (wst M p q n).2.2 → n ≤ i + j → (∀ k, k < n → ((wst M p q k).1 ≤ p ∧ (wst M p q k).2.1 ≤ q ∧ ((wst M p q k).1 < p ∨ (wst M p q k).2.1 < q))) → N 4 5 = nI n → (∀ k, k < n → N 15 k = nI (wst M p q (k + 1)).2.2) → N 4 6 = M 4 6 → (∀ z, z ≠ 4 → z ≠ 15 → N z = M z) → G mX1_walk 11 [some (.ref 4), some (.int (nI i)), some (.int (nI j)), some (.int (nI l))] [] N (walkP M p q) := by
  have ⟨m1, m2, m3, m4, m5⟩ := hm
  intro d
  induction d using Nat.strongRecOn with
  | ind d ih =>
    intro n i j l N hd hi hj hl hw1 hw2 hw3 hnij ip i5 i15 i6 i0
    have n1 : N 5 3 = nI p := by rw [i0 5 (by decide) (by decide)]; exact m1
    have n2 : N 8 3 = nI q := by rw [i0 8 (by decide) (by decide)]; exact m2
    have hmN : mrg N p q := ⟨n1, n2, m3, m4, m5⟩
    have l5 := i5
    refine blk 1 [(.aload_n 0, 0, 0, 0), (.getfield 60, 1, 5, 0), (.bipush 60, 0, 0, (nI 60))] [] (by decide +kernel) rfl (pc' := 17) (ls' := [some (.ref 4), some (.int (nI i)), some (.int (nI j)), some (.int (nI l))]) (st' := [.int (nI 60), .int (N 4 5)]) (M' := N) rfl ⟨trivial, rfl, trivial, trivial⟩ ?_
    refine g_icmp_ge (off := 86) (tgt := 103) (by decide +kernel) (by decide) (fun c1 => ?_) (fun c1 => ?_)
    · have nc1 : 60 ≤ n := (nI_leI (by omega) (by omega)).mp (by simpa only [i5, l5, n1, n2, nI_add, pk_mul, nI_s1, n0_lit] using c1)
      exact g_return (by decide +kernel) rfl ⟨rfl, n, by omega, by rw [← hw1]; omega, by rw [← hw2]; omega, ip, i5, i15, i6, i0⟩
    · have nc1 : n < 60 := by
        have z : ¬ nI 60 ≤ nI n := by simpa only [i5, l5, n1, n2, nI_add, pk_mul, nI_s1, n0_lit] using c1
        rw [nI_leI (by omega) (by omega)] at z
        omega
      refine blk 1 [(.iload_n 1, 0, 0, 0), (.aload_n 0, 0, 0, 0), (.getfield 12, 1, 1, 0), (.getfield 50, 4, 3, 0)] [] (by decide +kernel) rfl (pc' := 28) (ls' := [some (.ref 4), some (.int (nI i)), some (.int (nI j)), some (.int (nI l))]) (st' := [.int (N 5 3), .int (nI i)]) (M' := N) rfl ⟨trivial, trivial, rfl, rfl, trivial⟩ ?_
      refine g_icmp_lt (off := 14) (tgt := 42) (by decide +kernel) (by decide) (fun c2 => ?_) (fun c2 => ?_)
      · have nc2 : i < p := (nI_ltI (by omega) (by omega)).mp (by simpa only [i5, l5, n1, n2, nI_add, pk_mul, nI_s1, n0_lit] using c2)
        refine blk 1 [(.aload_n 0, 0, 0, 0), (.iload_n 1, 0, 0, 0), (.iload_n 2, 0, 0, 0)] [] (by decide +kernel) rfl (pc' := 45) (ls' := [some (.ref 4), some (.int (nI i)), some (.int (nI j)), some (.int (nI l))]) (st' := [.int (nI j), .int (nI i), .ref 4]) (M' := N) rfl ⟨trivial, trivial, trivial, trivial⟩ ?_
        refine g_callV (s_look N (p := p) (q := q) hmN hi hj) ok_X1_walk_X1_look (by decide +kernel) rfl (c := 1) rfl (by decide) rfl (Nat.le_of_ble_eq_true rfl) (fun r L h => ?_) rfl
        obtain ⟨hr, l7, l8, l9, l5, l6, lz⟩ := h
        rw [hr]
        show G _ 48 [some (.ref 4), some (.int (nI i)), some (.int (nI j)), some (.int (nI l))] [] L _
        refine blk 1 [(.aload_n 0, 0, 0, 0), (.iload_n 3, 0, 0, 0)] [] (by decide +kernel) rfl (pc' := 50) (ls' := [some (.ref 4), some (.int (nI i)), some (.int (nI j)), some (.int (nI l))]) (st' := [.int (nI l), .ref 4]) (M' := L) rfl ⟨trivial, trivial, trivial⟩ ?_
        refine g_callV (s_choose L (l := l) hl) ok_X1_walk_X1_choose (by decide +kernel) rfl (c := 1) rfl (by decide) rfl (Nat.le_of_ble_eq_true rfl) (fun r M' h => ?_) rfl
        obtain ⟨hr, hM⟩ := h
        rw [hr, hM]
        show G _ 53 [some (.ref 4), some (.int (nI i)), some (.int (nI j)), some (.int (nI l))] [.int (nI (chF L l))] L _
        have ec : chF L l = chM M p q i j l := by
          have ⟨k1, k2, k3⟩ := lk_congr (p := p) (q := q) (i := i) (j := j) i0
          unfold chF chM; rw [l7, l8, l9, l6, k1, k2, k3, i6]
        rw [ec]
        have hs := chV_le (lkB M p q i j) (lkL M p q i j) (lkR M p q i j) (M 4 6) l
        have hok := hav i j l hi hj (by omega) hl
        have hs : chM M p q i j l ≤ 2 := hs
        have l5 : L 4 5 = nI n := l5.trans i5
        generalize hsg : chM M p q i j l = s at hs hok
        have hn : n < 60 := by omega
        refine blk 1 [(.istore_n 3, 0, 0, 0), (.aload_n 0, 0, 0, 0), (.getfield 26, 1, 4, 0), (.aload_n 0, 0, 0, 0), (.getfield 60, 1, 5, 0), (.iload_n 3, 0, 0, 0), (.iastore, 0, 0, 0), (.aload_n 0, 0, 0, 0), (.dup, 0, 0, 0), (.getfield 60, 1, 5, 0), (.iconst 1, 0, 0, (nI 1)), (.iadd, 0, 0, 0), (.putfield 60, 1, 5, 0), (.iload_n 1, 0, 0, 0), (.iload_n 3, 0, 0, 0), (.iconst 2, 0, 0, (nI 2))] [n] (by decide +kernel) rfl (pc' := 77) (ls' := [some (.ref 4), some (.int (nI i)), some (.int (nI j)), some (.int (nI s))]) (st' := [.int (nI 2), .int (nI s), .int (nI i)]) (M' := stm (stm L 15 n (nI s)) 4 5 ((L 4 5) + (nI 1))) rfl ⟨trivial, trivial, rfl, trivial, rfl, trivial, ⟨(by simp only [i5, l5, n1, n2, nI_add, pk_mul, nI_s1, Nat.reduceAdd, Nat.reduceMul]), (by show _ < 60; omega), by decide⟩, trivial, rfl, rfl, trivial, trivial, rfl, trivial, trivial, trivial, trivial⟩ ?_
        refine g_icmp_ne (off := 7) (tgt := 84) (by decide +kernel) (by decide) (fun c3 => ?_) (fun c3 => ?_)
        · have nc3 : s ≠ 2 := by
            have z : ¬ nI s = nI 2 := by simpa only [i5, l5, n1, n2, nI_add, pk_mul, nI_s1, n0_lit] using c3
            rw [nI_eq (by omega) (by omega)] at z
            omega
          refine blk 1 [(.iconst 1, 0, 0, (nI 1)), (.iadd, 0, 0, 0), (.istore_n 1, 0, 0, 0), (.iload_n 2, 0, 0, 0), (.iload_n 3, 0, 0, 0), (.iconst 1, 0, 0, (nI 1))] [] (by decide +kernel) rfl (pc' := 90) (ls' := [some (.ref 4), some (.int ((nI i) + (nI 1))), some (.int (nI j)), some (.int (nI s))]) (st' := [.int (nI 1), .int (nI s), .int (nI j)]) (M' := stm (stm L 15 n (nI s)) 4 5 ((L 4 5) + (nI 1))) rfl ⟨trivial, trivial, trivial, trivial, trivial, trivial, trivial⟩ ?_
          refine g_icmp_ne (off := 7) (tgt := 97) (by decide +kernel) (by decide) (fun c4 => ?_) (fun c4 => ?_)
          · have nc4 : s ≠ 1 := by
              have z : ¬ nI s = nI 1 := by simpa only [i5, l5, n1, n2, nI_add, pk_mul, nI_s1, n0_lit] using c4
              rw [nI_eq (by omega) (by omega)] at z
              omega
            refine blk 1 [(.iconst 1, 0, 0, (nI 1)), (.iadd, 0, 0, 0), (.istore_n 2, 0, 0, 0), (.goto (-89), 11, 0, 0)] [] (by decide +kernel) rfl (pc' := 11) (ls' := [some (.ref 4), some (.int ((nI i) + (nI 1))), some (.int ((nI j) + (nI 1))), some (.int (nI s))]) (st' := []) (M' := stm (stm L 15 n (nI s)) 4 5 ((L 4 5) + (nI 1))) rfl ⟨trivial, trivial, trivial, trivial, trivial⟩ ?_
            have hv := hok.1 (by omega)
            have ew : wst M p q (n + 1) = (i + 1, j + 1, s) := by
              rw [wst, ← hw1, ← hw2, ← hw3, hsg]; simp [*]
            refine G.sub (ls' := [some (.ref 4), some (.int (nI (i + 1))), some (.int (nI (j + 1))), some (.int (nI s))]) ?_ ⟨rfl, congrArg (fun z => some (Value.int z)) (by simp only [nI_add, Nat.add_zero]), congrArg (fun z => some (Value.int z)) (by simp only [nI_add, Nat.add_zero]), rfl, trivial⟩
            refine ih (p + q - ((i + 1) + (j + 1))) (by omega) (n + 1) (i + 1) (j + 1) s _ rfl (by omega) (by omega) hs (by rw [ew]) (by rw [ew]) (by rw [ew]) (by omega) (fun k hk => ?_) ?_ (fun k hk => ?_) ?_ (fun z h4 h15 => ?_)
            · by_cases e : k = n
              · subst e; rw [← hw1, ← hw2]; exact ⟨hi, hj, by omega⟩
              · exact ip k (by omega)
            · rw [stm_self, l5, nI_add]
            · rw [stm_ne (by decide)]
              by_cases e : k = n
              · subst e; rw [stm_self, ew]
              · rw [stm_off e, lz 15 (by decide)]; exact i15 k (by omega)
            · rw [stm_off (by decide), stm_ne (by decide), l6]; exact i6
            · rw [stm_ne h4, stm_ne h15, lz z h4]; exact i0 z h4 h15
          · have nc4 : s = 1 := (nI_eq (by omega) (by omega)).mp (by simpa only [i5, l5, n1, n2, nI_add, pk_mul, nI_s1, n0_lit] using c4)
            refine blk 1 [(.iconst 0, 0, 0, (nI 0)), (.goto (4), 98, 0, 0), (.iadd, 0, 0, 0), (.istore_n 2, 0, 0, 0), (.goto (-89), 11, 0, 0)] [] (by decide +kernel) rfl (pc' := 11) (ls' := [some (.ref 4), some (.int ((nI i) + (nI 1))), some (.int ((nI j) + (nI 0))), some (.int (nI s))]) (st' := []) (M' := stm (stm L 15 n (nI s)) 4 5 ((L 4 5) + (nI 1))) rfl ⟨trivial, trivial, trivial, trivial, trivial, trivial⟩ ?_
            have hv := hok.2.1 nc4
            have ew : wst M p q (n + 1) = (i + 1, j, s) := by
              rw [wst, ← hw1, ← hw2, ← hw3, hsg]; simp [*]
            refine G.sub (ls' := [some (.ref 4), some (.int (nI (i + 1))), some (.int (nI j)), some (.int (nI s))]) ?_ ⟨rfl, congrArg (fun z => some (Value.int z)) (by simp only [nI_add, Nat.add_zero]), congrArg (fun z => some (Value.int z)) (by simp only [nI_add, Nat.add_zero]), rfl, trivial⟩
            refine ih (p + q - ((i + 1) + j)) (by omega) (n + 1) (i + 1) j s _ rfl (by omega) (by omega) hs (by rw [ew]) (by rw [ew]) (by rw [ew]) (by omega) (fun k hk => ?_) ?_ (fun k hk => ?_) ?_ (fun z h4 h15 => ?_)
            · by_cases e : k = n
              · subst e; rw [← hw1, ← hw2]; exact ⟨hi, hj, by omega⟩
              · exact ip k (by omega)
            · rw [stm_self, l5, nI_add]
            · rw [stm_ne (by decide)]
              by_cases e : k = n
              · subst e; rw [stm_self, ew]
              · rw [stm_off e, lz 15 (by decide)]; exact i15 k (by omega)
            · rw [stm_off (by decide), stm_ne (by decide), l6]; exact i6
            · rw [stm_ne h4, stm_ne h15, lz z h4]; exact i0 z h4 h15
        · have nc3 : s = 2 := (nI_eq (by omega) (by omega)).mp (by simpa only [i5, l5, n1, n2, nI_add, pk_mul, nI_s1, n0_lit] using c3)
          refine blk 1 [(.iconst 0, 0, 0, (nI 0)), (.goto (4), 85, 0, 0), (.iadd, 0, 0, 0), (.istore_n 1, 0, 0, 0), (.iload_n 2, 0, 0, 0), (.iload_n 3, 0, 0, 0), (.iconst 1, 0, 0, (nI 1))] [] (by decide +kernel) rfl (pc' := 90) (ls' := [some (.ref 4), some (.int ((nI i) + (nI 0))), some (.int (nI j)), some (.int (nI s))]) (st' := [.int (nI 1), .int (nI s), .int (nI j)]) (M' := stm (stm L 15 n (nI s)) 4 5 ((L 4 5) + (nI 1))) rfl ⟨trivial, trivial, trivial, trivial, trivial, trivial, trivial, trivial⟩ ?_
          refine g_icmp_ne (off := 7) (tgt := 97) (by decide +kernel) (by decide) (fun c5 => ?_) (fun c5 => ?_)
          · have nc5 : s ≠ 1 := by
              have z : ¬ nI s = nI 1 := by simpa only [i5, l5, n1, n2, nI_add, pk_mul, nI_s1, n0_lit] using c5
              rw [nI_eq (by omega) (by omega)] at z
              omega
            refine blk 1 [(.iconst 1, 0, 0, (nI 1)), (.iadd, 0, 0, 0), (.istore_n 2, 0, 0, 0), (.goto (-89), 11, 0, 0)] [] (by decide +kernel) rfl (pc' := 11) (ls' := [some (.ref 4), some (.int ((nI i) + (nI 0))), some (.int ((nI j) + (nI 1))), some (.int (nI s))]) (st' := []) (M' := stm (stm L 15 n (nI s)) 4 5 ((L 4 5) + (nI 1))) rfl ⟨trivial, trivial, trivial, trivial, trivial⟩ ?_
            have hv := hok.2.2 nc3
            have ew : wst M p q (n + 1) = (i, j + 1, s) := by
              rw [wst, ← hw1, ← hw2, ← hw3, hsg]; simp [*]
            refine G.sub (ls' := [some (.ref 4), some (.int (nI i)), some (.int (nI (j + 1))), some (.int (nI s))]) ?_ ⟨rfl, congrArg (fun z => some (Value.int z)) (by simp only [nI_add, Nat.add_zero]), congrArg (fun z => some (Value.int z)) (by simp only [nI_add, Nat.add_zero]), rfl, trivial⟩
            refine ih (p + q - (i + (j + 1))) (by omega) (n + 1) i (j + 1) s _ rfl (by omega) (by omega) hs (by rw [ew]) (by rw [ew]) (by rw [ew]) (by omega) (fun k hk => ?_) ?_ (fun k hk => ?_) ?_ (fun z h4 h15 => ?_)
            · by_cases e : k = n
              · subst e; rw [← hw1, ← hw2]; exact ⟨hi, hj, by omega⟩
              · exact ip k (by omega)
            · rw [stm_self, l5, nI_add]
            · rw [stm_ne (by decide)]
              by_cases e : k = n
              · subst e; rw [stm_self, ew]
              · rw [stm_off e, lz 15 (by decide)]; exact i15 k (by omega)
            · rw [stm_off (by decide), stm_ne (by decide), l6]; exact i6
            · rw [stm_ne h4, stm_ne h15, lz z h4]; exact i0 z h4 h15
          · have nc5 : s = 1 := (nI_eq (by omega) (by omega)).mp (by simpa only [i5, l5, n1, n2, nI_add, pk_mul, nI_s1, n0_lit] using c5)
            refine blk 1 [(.iconst 0, 0, 0, (nI 0)), (.goto (4), 98, 0, 0), (.iadd, 0, 0, 0), (.istore_n 2, 0, 0, 0), (.goto (-89), 11, 0, 0)] [] (by decide +kernel) rfl (pc' := 11) (ls' := [some (.ref 4), some (.int ((nI i) + (nI 0))), some (.int ((nI j) + (nI 0))), some (.int (nI s))]) (st' := []) (M' := stm (stm L 15 n (nI s)) 4 5 ((L 4 5) + (nI 1))) rfl ⟨trivial, trivial, trivial, trivial, trivial, trivial⟩ ?_
            exact absurd (nc3.symm.trans nc5) (by decide)
      · have nc2 : p ≤ i := by
          have z : ¬ nI i < nI p := by simpa only [i5, l5, n1, n2, nI_add, pk_mul, nI_s1, n0_lit] using c2
          rw [nI_ltI (by omega) (by omega)] at z
          omega
        refine blk 1 [(.iload_n 2, 0, 0, 0), (.aload_n 0, 0, 0, 0), (.getfield 18, 1, 2, 0), (.getfield 50, 4, 3, 0)] [] (by decide +kernel) rfl (pc' := 39) (ls' := [some (.ref 4), some (.int (nI i)), some (.int (nI j)), some (.int (nI l))]) (st' := [.int (N 8 3), .int (nI j)]) (M' := N) rfl ⟨trivial, trivial, rfl, rfl, trivial⟩ ?_
        refine g_icmp_ge (off := 64) (tgt := 103) (by decide +kernel) (by decide) (fun c6 => ?_) (fun c6 => ?_)
        · have nc6 : q ≤ j := (nI_leI (by omega) (by omega)).mp (by simpa only [i5, l5, n1, n2, nI_add, pk_mul, nI_s1, n0_lit] using c6)
          exact g_return (by decide +kernel) rfl ⟨rfl, n, by omega, by rw [← hw1]; omega, by rw [← hw2]; omega, ip, i5, i15, i6, i0⟩
        · have nc6 : j < q := by
            have z : ¬ nI q ≤ nI j := by simpa only [i5, l5, n1, n2, nI_add, pk_mul, nI_s1, n0_lit] using c6
            rw [nI_leI (by omega) (by omega)] at z
            omega
          refine blk 1 [(.aload_n 0, 0, 0, 0), (.iload_n 1, 0, 0, 0), (.iload_n 2, 0, 0, 0)] [] (by decide +kernel) rfl (pc' := 45) (ls' := [some (.ref 4), some (.int (nI i)), some (.int (nI j)), some (.int (nI l))]) (st' := [.int (nI j), .int (nI i), .ref 4]) (M' := N) rfl ⟨trivial, trivial, trivial, trivial⟩ ?_
          refine g_callV (s_look N (p := p) (q := q) hmN hi hj) ok_X1_walk_X1_look (by decide +kernel) rfl (c := 1) rfl (by decide) rfl (Nat.le_of_ble_eq_true rfl) (fun r L h => ?_) rfl
          obtain ⟨hr, l7, l8, l9, l5, l6, lz⟩ := h
          rw [hr]
          show G _ 48 [some (.ref 4), some (.int (nI i)), some (.int (nI j)), some (.int (nI l))] [] L _
          refine blk 1 [(.aload_n 0, 0, 0, 0), (.iload_n 3, 0, 0, 0)] [] (by decide +kernel) rfl (pc' := 50) (ls' := [some (.ref 4), some (.int (nI i)), some (.int (nI j)), some (.int (nI l))]) (st' := [.int (nI l), .ref 4]) (M' := L) rfl ⟨trivial, trivial, trivial⟩ ?_
          refine g_callV (s_choose L (l := l) hl) ok_X1_walk_X1_choose (by decide +kernel) rfl (c := 1) rfl (by decide) rfl (Nat.le_of_ble_eq_true rfl) (fun r M' h => ?_) rfl
          obtain ⟨hr, hM⟩ := h
          rw [hr, hM]
          show G _ 53 [some (.ref 4), some (.int (nI i)), some (.int (nI j)), some (.int (nI l))] [.int (nI (chF L l))] L _
          have ec : chF L l = chM M p q i j l := by
            have ⟨k1, k2, k3⟩ := lk_congr (p := p) (q := q) (i := i) (j := j) i0
            unfold chF chM; rw [l7, l8, l9, l6, k1, k2, k3, i6]
          rw [ec]
          have hs := chV_le (lkB M p q i j) (lkL M p q i j) (lkR M p q i j) (M 4 6) l
          have hok := hav i j l hi hj (by omega) hl
          have hs : chM M p q i j l ≤ 2 := hs
          have l5 : L 4 5 = nI n := l5.trans i5
          generalize hsg : chM M p q i j l = s at hs hok
          have hn : n < 60 := by omega
          refine blk 1 [(.istore_n 3, 0, 0, 0), (.aload_n 0, 0, 0, 0), (.getfield 26, 1, 4, 0), (.aload_n 0, 0, 0, 0), (.getfield 60, 1, 5, 0), (.iload_n 3, 0, 0, 0), (.iastore, 0, 0, 0), (.aload_n 0, 0, 0, 0), (.dup, 0, 0, 0), (.getfield 60, 1, 5, 0), (.iconst 1, 0, 0, (nI 1)), (.iadd, 0, 0, 0), (.putfield 60, 1, 5, 0), (.iload_n 1, 0, 0, 0), (.iload_n 3, 0, 0, 0), (.iconst 2, 0, 0, (nI 2))] [n] (by decide +kernel) rfl (pc' := 77) (ls' := [some (.ref 4), some (.int (nI i)), some (.int (nI j)), some (.int (nI s))]) (st' := [.int (nI 2), .int (nI s), .int (nI i)]) (M' := stm (stm L 15 n (nI s)) 4 5 ((L 4 5) + (nI 1))) rfl ⟨trivial, trivial, rfl, trivial, rfl, trivial, ⟨(by simp only [i5, l5, n1, n2, nI_add, pk_mul, nI_s1, Nat.reduceAdd, Nat.reduceMul]), (by show _ < 60; omega), by decide⟩, trivial, rfl, rfl, trivial, trivial, rfl, trivial, trivial, trivial, trivial⟩ ?_
          refine g_icmp_ne (off := 7) (tgt := 84) (by decide +kernel) (by decide) (fun c7 => ?_) (fun c7 => ?_)
          · have nc7 : s ≠ 2 := by
              have z : ¬ nI s = nI 2 := by simpa only [i5, l5, n1, n2, nI_add, pk_mul, nI_s1, n0_lit] using c7
              rw [nI_eq (by omega) (by omega)] at z
              omega
            refine blk 1 [(.iconst 1, 0, 0, (nI 1)), (.iadd, 0, 0, 0), (.istore_n 1, 0, 0, 0), (.iload_n 2, 0, 0, 0), (.iload_n 3, 0, 0, 0), (.iconst 1, 0, 0, (nI 1))] [] (by decide +kernel) rfl (pc' := 90) (ls' := [some (.ref 4), some (.int ((nI i) + (nI 1))), some (.int (nI j)), some (.int (nI s))]) (st' := [.int (nI 1), .int (nI s), .int (nI j)]) (M' := stm (stm L 15 n (nI s)) 4 5 ((L 4 5) + (nI 1))) rfl ⟨trivial, trivial, trivial, trivial, trivial, trivial, trivial⟩ ?_
            refine g_icmp_ne (off := 7) (tgt := 97) (by decide +kernel) (by decide) (fun c8 => ?_) (fun c8 => ?_)
            · have nc8 : s ≠ 1 := by
                have z : ¬ nI s = nI 1 := by simpa only [i5, l5, n1, n2, nI_add, pk_mul, nI_s1, n0_lit] using c8
                rw [nI_eq (by omega) (by omega)] at z
                omega
              refine blk 1 [(.iconst 1, 0, 0, (nI 1)), (.iadd, 0, 0, 0), (.istore_n 2, 0, 0, 0), (.goto (-89), 11, 0, 0)] [] (by decide +kernel) rfl (pc' := 11) (ls' := [some (.ref 4), some (.int ((nI i) + (nI 1))), some (.int ((nI j) + (nI 1))), some (.int (nI s))]) (st' := []) (M' := stm (stm L 15 n (nI s)) 4 5 ((L 4 5) + (nI 1))) rfl ⟨trivial, trivial, trivial, trivial, trivial⟩ ?_
              have hv := hok.1 (by omega)
              have ew : wst M p q (n + 1) = (i + 1, j + 1, s) := by
                rw [wst, ← hw1, ← hw2, ← hw3, hsg]; simp [*]
              refine G.sub (ls' := [some (.ref 4), some (.int (nI (i + 1))), some (.int (nI (j + 1))), some (.int (nI s))]) ?_ ⟨rfl, congrArg (fun z => some (Value.int z)) (by simp only [nI_add, Nat.add_zero]), congrArg (fun z => some (Value.int z)) (by simp only [nI_add, Nat.add_zero]), rfl, trivial⟩
              refine ih (p + q - ((i + 1) + (j + 1))) (by omega) (n + 1) (i + 1) (j + 1) s _ rfl (by omega) (by omega) hs (by rw [ew]) (by rw [ew]) (by rw [ew]) (by omega) (fun k hk => ?_) ?_ (fun k hk => ?_) ?_ (fun z h4 h15 => ?_)
              · by_cases e : k = n
                · subst e; rw [← hw1, ← hw2]; exact ⟨hi, hj, by omega⟩
                · exact ip k (by omega)
              · rw [stm_self, l5, nI_add]
              · rw [stm_ne (by decide)]
                by_cases e : k = n
                · subst e; rw [stm_self, ew]
                · rw [stm_off e, lz 15 (by decide)]; exact i15 k (by omega)
              · rw [stm_off (by decide), stm_ne (by decide), l6]; exact i6
              · rw [stm_ne h4, stm_ne h15, lz z h4]; exact i0 z h4 h15
            · have nc8 : s = 1 := (nI_eq (by omega) (by omega)).mp (by simpa only [i5, l5, n1, n2, nI_add, pk_mul, nI_s1, n0_lit] using c8)
              refine blk 1 [(.iconst 0, 0, 0, (nI 0)), (.goto (4), 98, 0, 0), (.iadd, 0, 0, 0), (.istore_n 2, 0, 0, 0), (.goto (-89), 11, 0, 0)] [] (by decide +kernel) rfl (pc' := 11) (ls' := [some (.ref 4), some (.int ((nI i) + (nI 1))), some (.int ((nI j) + (nI 0))), some (.int (nI s))]) (st' := []) (M' := stm (stm L 15 n (nI s)) 4 5 ((L 4 5) + (nI 1))) rfl ⟨trivial, trivial, trivial, trivial, trivial, trivial⟩ ?_
              have hv := hok.2.1 nc8
              have ew : wst M p q (n + 1) = (i + 1, j, s) := by
                rw [wst, ← hw1, ← hw2, ← hw3, hsg]; simp [*]
              refine G.sub (ls' := [some (.ref 4), some (.int (nI (i + 1))), some (.int (nI j)), some (.int (nI s))]) ?_ ⟨rfl, congrArg (fun z => some (Value.int z)) (by simp only [nI_add, Nat.add_zero]), congrArg (fun z => some (Value.int z)) (by simp only [nI_add, Nat.add_zero]), rfl, trivial⟩
              refine ih (p + q - ((i + 1) + j)) (by omega) (n + 1) (i + 1) j s _ rfl (by omega) (by omega) hs (by rw [ew]) (by rw [ew]) (by rw [ew]) (by omega) (fun k hk => ?_) ?_ (fun k hk => ?_) ?_ (fun z h4 h15 => ?_)
              · by_cases e : k = n
                · subst e; rw [← hw1, ← hw2]; exact ⟨hi, hj, by omega⟩
                · exact ip k (by omega)
              · rw [stm_self, l5, nI_add]
              · rw [stm_ne (by decide)]
                by_cases e : k = n
                · subst e; rw [stm_self, ew]
                · rw [stm_off e, lz 15 (by decide)]; exact i15 k (by omega)
              · rw [stm_off (by decide), stm_ne (by decide), l6]; exact i6
              · rw [stm_ne h4, stm_ne h15, lz z h4]; exact i0 z h4 h15
          · have nc7 : s = 2 := (nI_eq (by omega) (by omega)).mp (by simpa only [i5, l5, n1, n2, nI_add, pk_mul, nI_s1, n0_lit] using c7)
            refine blk 1 [(.iconst 0, 0, 0, (nI 0)), (.goto (4), 85, 0, 0), (.iadd, 0, 0, 0), (.istore_n 1, 0, 0, 0), (.iload_n 2, 0, 0, 0), (.iload_n 3, 0, 0, 0), (.iconst 1, 0, 0, (nI 1))] [] (by decide +kernel) rfl (pc' := 90) (ls' := [some (.ref 4), some (.int ((nI i) + (nI 0))), some (.int (nI j)), some (.int (nI s))]) (st' := [.int (nI 1), .int (nI s), .int (nI j)]) (M' := stm (stm L 15 n (nI s)) 4 5 ((L 4 5) + (nI 1))) rfl ⟨trivial, trivial, trivial, trivial, trivial, trivial, trivial, trivial⟩ ?_
            refine g_icmp_ne (off := 7) (tgt := 97) (by decide +kernel) (by decide) (fun c9 => ?_) (fun c9 => ?_)
            · have nc9 : s ≠ 1 := by
                have z : ¬ nI s = nI 1 := by simpa only [i5, l5, n1, n2, nI_add, pk_mul, nI_s1, n0_lit] using c9
                rw [nI_eq (by omega) (by omega)] at z
                omega
              refine blk 1 [(.iconst 1, 0, 0, (nI 1)), (.iadd, 0, 0, 0), (.istore_n 2, 0, 0, 0), (.goto (-89), 11, 0, 0)] [] (by decide +kernel) rfl (pc' := 11) (ls' := [some (.ref 4), some (.int ((nI i) + (nI 0))), some (.int ((nI j) + (nI 1))), some (.int (nI s))]) (st' := []) (M' := stm (stm L 15 n (nI s)) 4 5 ((L 4 5) + (nI 1))) rfl ⟨trivial, trivial, trivial, trivial, trivial⟩ ?_
              have hv := hok.2.2 nc7
              have ew : wst M p q (n + 1) = (i, j + 1, s) := by
                rw [wst, ← hw1, ← hw2, ← hw3, hsg]; simp [*]
              refine G.sub (ls' := [some (.ref 4), some (.int (nI i)), some (.int (nI (j + 1))), some (.int (nI s))]) ?_ ⟨rfl, congrArg (fun z => some (Value.int z)) (by simp only [nI_add, Nat.add_zero]), congrArg (fun z => some (Value.int z)) (by simp only [nI_add, Nat.add_zero]), rfl, trivial⟩
              refine ih (p + q - (i + (j + 1))) (by omega) (n + 1) i (j + 1) s _ rfl (by omega) (by omega) hs (by rw [ew]) (by rw [ew]) (by rw [ew]) (by omega) (fun k hk => ?_) ?_ (fun k hk => ?_) ?_ (fun z h4 h15 => ?_)
              · by_cases e : k = n
                · subst e; rw [← hw1, ← hw2]; exact ⟨hi, hj, by omega⟩
                · exact ip k (by omega)
              · rw [stm_self, l5, nI_add]
              · rw [stm_ne (by decide)]
                by_cases e : k = n
                · subst e; rw [stm_self, ew]
                · rw [stm_off e, lz 15 (by decide)]; exact i15 k (by omega)
              · rw [stm_off (by decide), stm_ne (by decide), l6]; exact i6
              · rw [stm_ne h4, stm_ne h15, lz z h4]; exact i0 z h4 h15
            · have nc9 : s = 1 := (nI_eq (by omega) (by omega)).mp (by simpa only [i5, l5, n1, n2, nI_add, pk_mul, nI_s1, n0_lit] using c9)
              refine blk 1 [(.iconst 0, 0, 0, (nI 0)), (.goto (4), 98, 0, 0), (.iadd, 0, 0, 0), (.istore_n 2, 0, 0, 0), (.goto (-89), 11, 0, 0)] [] (by decide +kernel) rfl (pc' := 11) (ls' := [some (.ref 4), some (.int ((nI i) + (nI 0))), some (.int ((nI j) + (nI 0))), some (.int (nI s))]) (st' := []) (M' := stm (stm L 15 n (nI s)) 4 5 ((L 4 5) + (nI 1))) rfl ⟨trivial, trivial, trivial, trivial, trivial, trivial⟩ ?_
              exact absurd (nc7.symm.trans nc9) (by decide)
theorem s_walk (M : Mem) {p q : Nat} (hm : mrg M p q) (hpq : p + q ≤ 60) (hav : chOK M p q) : Spec mX1_walk [.ref 4] M (walkP M p q) := by
  refine Spec.of (by decide) (by simp [Value.category]) (Nat.le_of_ble_eq_true rfl) ?_
  refine blk 1 [(.iconst 0, 0, 0, (nI 0)), (.istore_n 1, 0, 0, 0), (.iconst 0, 0, 0, (nI 0)), (.istore_n 2, 0, 0, 0), (.iconst 0, 0, 0, (nI 0)), (.istore_n 3, 0, 0, 0), (.aload_n 0, 0, 0, 0), (.iconst 0, 0, 0, (nI 0)), (.putfield 60, 1, 5, 0)] [] (by decide +kernel) rfl (pc' := 11) (ls' := [some (.ref 4), some (.int (nI 0)), some (.int (nI 0)), some (.int (nI 0))]) (st' := []) (M' := stm M 4 5 (nI 0)) rfl ⟨trivial, trivial, trivial, trivial, trivial, trivial, trivial, trivial, rfl, trivial⟩ ?_
  exact l_walk hm hpq hav _ 0 0 0 0 _ rfl (by omega) (by omega) (by omega) rfl rfl rfl (by omega) (fun k h => absurd h (by omega)) (by rw [stm_self]) (fun k h => absurd h (by omega)) (by rw [stm_off (by decide)]) (fun z h4 _ => by rw [stm_ne h4])
end
section
/-! bounds: with small data the tables stay small, and no step is taken that cannot be -/
theorem ti_add {a b : Int32} (h1 : -1073741824 ≤ a.toInt) (h2 : a.toInt ≤ 1073741823) (h3 : -1073741824 ≤ b.toInt) (h4 : b.toInt ≤ 1073741823) : (a + b).toInt = a.toInt + b.toInt := by
  rw [Int32.toInt_add]
  exact Int.bmod_eq_of_le (by omega) (by omega)
theorem ti_sub {a b : Int32} (h1 : -1073741824 ≤ a.toInt) (h2 : a.toInt ≤ 1073741823) (h3 : -1073741823 ≤ b.toInt) (h4 : b.toInt ≤ 1073741823) : (a - b).toInt = a.toInt - b.toInt := by
  rw [Int32.toInt_sub]
  exact Int.bmod_eq_of_le (by omega) (by omega)
def sm (K : Int) (x : Int32) : Prop := -K ≤ x.toInt ∧ x.toInt ≤ K
theorem sm_mono {K L : Int} {x : Int32} (h : sm K x) (hk : K ≤ L) : sm L x := by unfold sm at *; omega
theorem never_ti : (-1000000000 : Int32).toInt = -1000000000 := by decide
/-- the table's entries from a place on are what they should be -/
def tb (M : Mem) (p q : Nat) (D : Nat → Nat → Prop) : Prop := ∀ i j l, i ≤ p → j ≤ q → l < 3 → D i j → M (12 + l) (i * (q + 1) + j) = dpv M p q i j l
def bnd (M : Mem) (p q : Nat) : Prop := (∀ i j, i < p → j < q → sm 1000000 (mtF M i j)) ∧ (∀ i, i < p → sm 1000000 (M 2 2 * M 7 i * M 8 2)) ∧ (∀ j, j < q → sm 1000000 (M 2 2 * M 10 j * M 5 2)) ∧ 0 ≤ (M 4 6).toInt ∧ (M 4 6).toInt ≤ 1000000
/-- a choice among three, each small or never: what it takes is small -/
theorem ch_ok {b L R op : Int32} {l : Nat} {B C : Int} {cb cl cr : Prop} (hl : l ≤ 2) (hC : 0 ≤ B ∧ B + 1000000 ≤ C ∧ C ≤ 400000000) (ho : 0 ≤ op.toInt ∧ op.toInt ≤ 1000000) (hb : (cb ∧ sm B b) ∨ (¬ cb ∧ b = -1000000000)) (hL : (cl ∧ sm B L) ∨ (¬ cl ∧ L = -1000000000)) (hR : (cr ∧ sm B R) ∨ (¬ cr ∧ R = -1000000000)) (hcb : cb ↔ cl ∧ cr) (hany : cl ∨ cr) :
    sm C (waV b L R op l (chV b L R op l)) ∧ (chV b L R op l = 0 → cb) ∧ (chV b L R op l = 1 → cl) ∧ (chV b L R op l = 2 → cr) := by
  have nv := never_ti
  have eL : (L - op).toInt = L.toInt - op.toInt := by
    refine ti_sub ?_ ?_ (by omega) (by omega)
    · rcases hL with ⟨_, h⟩ | ⟨_, h⟩
      · unfold sm at h; omega
      · rw [h, nv]; omega
    · rcases hL with ⟨_, h⟩ | ⟨_, h⟩
      · unfold sm at h; omega
      · rw [h, nv]; omega
  have eR : (R - op).toInt = R.toInt - op.toInt := by
    refine ti_sub ?_ ?_ (by omega) (by omega)
    · rcases hR with ⟨_, h⟩ | ⟨_, h⟩
      · unfold sm at h; omega
      · rw [h, nv]; omega
    · rcases hR with ⟨_, h⟩ | ⟨_, h⟩
      · unfold sm at h; omega
      · rw [h, nv]; omega
  have w1 : (cl ∧ sm C (waV b L R op l 1)) ∨ (¬ cl ∧ (waV b L R op l 1).toInt ≤ -1000000000) := by
    unfold waV
    rw [if_neg (by decide), if_pos rfl]
    split
    · rcases hL with ⟨h1, h⟩ | ⟨h1, h⟩
      · exact Or.inl ⟨h1, sm_mono h (by omega)⟩
      · exact Or.inr ⟨h1, by rw [h, nv]; omega⟩
    · rcases hL with ⟨h1, h⟩ | ⟨h1, h⟩
      · refine Or.inl ⟨h1, ?_⟩
        unfold sm at *
        rw [eL]; omega
      · refine Or.inr ⟨h1, ?_⟩
        rw [eL, h, nv]; omega
  have w2 : (cr ∧ sm C (waV b L R op l 2)) ∨ (¬ cr ∧ (waV b L R op l 2).toInt ≤ -1000000000) := by
    unfold waV
    rw [if_neg (by decide), if_neg (by decide)]
    split
    · rcases hR with ⟨h1, h⟩ | ⟨h1, h⟩
      · exact Or.inl ⟨h1, sm_mono h (by omega)⟩
      · exact Or.inr ⟨h1, by rw [h, nv]; omega⟩
    · rcases hR with ⟨h1, h⟩ | ⟨h1, h⟩
      · refine Or.inl ⟨h1, ?_⟩
        unfold sm at *
        rw [eR]; omega
      · refine Or.inr ⟨h1, ?_⟩
        rw [eR, h, nv]; omega
  have w0 : waV b L R op l 0 = b := by unfold waV; rw [if_pos rfl]
  generalize h1 : waV b L R op l 1 = x at w1
  generalize h2 : waV b L R op l 2 = y at w2
  have hx : x < y ↔ x.toInt < y.toInt := Int32.lt_iff_toInt_lt
  have hbx : b < x ↔ b.toInt < x.toInt := Int32.lt_iff_toInt_lt
  have hby : b < y ↔ b.toInt < y.toInt := Int32.lt_iff_toInt_lt
  unfold sm at *
  have hc : (chV b L R op l = 0 ∧ ¬ b < x ∧ ¬ b < y) ∨ (chV b L R op l = 1 ∧ ¬ (¬ b < x ∧ ¬ b < y) ∧ ¬ x < y) ∨ (chV b L R op l = 2 ∧ ¬ (¬ b < x ∧ ¬ b < y) ∧ x < y) := by
    unfold chV
    rw [h1, h2]
    by_cases c1 : ¬ b < x ∧ ¬ b < y
    · rw [if_pos c1]; exact Or.inl ⟨rfl, c1⟩
    · rw [if_neg c1]
      by_cases c2 : ¬ x < y
      · rw [if_pos c2]; exact Or.inr (Or.inl ⟨rfl, c1, c2⟩)
      · rw [if_neg c2]; exact Or.inr (Or.inr ⟨rfl, c1, Decidable.not_not.mp c2⟩)
  simp only [hbx, hby, hx] at hc
  rcases hc with ⟨e, c1, c2⟩ | ⟨e, c1, c2⟩ | ⟨e, c1, c2⟩
  · rw [e, w0]
    have hcb2 : cb := by
      rcases hb with ⟨h, _⟩ | ⟨_, h⟩
      · exact h
      · exfalso
        have hbt : b.toInt = -1000000000 := by rw [h, nv]
        rcases w1 with ⟨_, w1⟩ | ⟨n1, w1⟩
        · omega
        · rcases w2 with ⟨_, w2⟩ | ⟨n2, w2⟩
          · omega
          · exact hany.elim n1 n2
    refine ⟨?_, fun _ => hcb2, fun h => absurd h (by decide), fun h => absurd h (by decide)⟩
    rcases hb with ⟨_, h⟩ | ⟨n, _⟩
    · omega
    · exact absurd hcb2 n
  · rw [e, h1]
    have hcl : cl := by
      rcases w1 with ⟨h, _⟩ | ⟨n1, w1⟩
      · exact h
      · exfalso
        rcases w2 with ⟨_, w2⟩ | ⟨n2, w2⟩
        · omega
        · exact hany.elim n1 n2
    refine ⟨?_, fun h => absurd h (by decide), fun _ => hcl, fun h => absurd h (by decide)⟩
    rcases w1 with ⟨_, h⟩ | ⟨n, _⟩
    · exact h
    · exact absurd hcl n
  · rw [e, h2]
    have hcr : cr := by
      rcases w2 with ⟨h, _⟩ | ⟨n2, w2⟩
      · exact h
      · exfalso
        rcases w1 with ⟨_, w1⟩ | ⟨n1, w1⟩
        · omega
        · exact hany.elim n1 n2
    refine ⟨?_, fun h => absurd h (by decide), fun h => absurd h (by decide), fun _ => hcr⟩
    rcases w2 with ⟨_, h⟩ | ⟨n, _⟩
    · exact h
    · exact absurd hcr n
theorem lk_sm {M : Mem} {p q i j : Nat} {B : Int} (hB : bnd M p q) (hi : i ≤ p) (hj : j ≤ q) (h0 : 0 ≤ B ∧ B ≤ 300000000) (ht : ∀ a b l, a ≤ p → b ≤ q → l < 3 → i + j < a + b → sm B (M (12 + l) (a * (q + 1) + b))) :
    ((i < p ∧ j < q) ∧ sm (B + 1000000) (lkB M p q i j) ∨ ¬ (i < p ∧ j < q) ∧ lkB M p q i j = -1000000000) ∧ (i < p ∧ sm (B + 1000000) (lkL M p q i j) ∨ ¬ i < p ∧ lkL M p q i j = -1000000000) ∧ (j < q ∧ sm (B + 1000000) (lkR M p q i j) ∨ ¬ j < q ∧ lkR M p q i j = -1000000000) := by
  obtain ⟨b1, b2, b3, b4, b5⟩ := hB
  refine ⟨?_, ?_, ?_⟩
  · unfold lkB
    by_cases h : i < p ∧ j < q
    · rw [if_pos h]
      refine Or.inl ⟨h, ?_⟩
      have t1 := ht (i + 1) (j + 1) 0 (by omega) (by omega) (by omega) (by omega)
      have t2 := b1 i j h.1 h.2
      unfold sm at *
      rw [Nat.add_zero] at t1
      rw [ti_add (by omega) (by omega) (by omega) (by omega)]
      omega
    · rw [if_neg h]; exact Or.inr ⟨h, rfl⟩
  · unfold lkL
    by_cases h : i < p
    · rw [if_pos h]
      refine Or.inl ⟨h, ?_⟩
      have t1 := ht (i + 1) j 1 (by omega) (by omega) (by omega) (by omega)
      have t2 := b2 i h
      unfold sm at *
      rw [show 12 + 1 = 13 from rfl] at t1
      rw [ti_sub (by omega) (by omega) (by omega) (by omega)]
      omega
    · rw [if_neg h]; exact Or.inr ⟨h, rfl⟩
  · unfold lkR
    by_cases h : j < q
    · rw [if_pos h]
      refine Or.inl ⟨h, ?_⟩
      have t1 := ht i (j + 1) 2 (by omega) (by omega) (by omega) (by omega)
      have t2 := b3 j h
      unfold sm at *
      rw [show 12 + 2 = 14 from rfl] at t1
      rw [ti_sub (by omega) (by omega) (by omega) (by omega)]
      omega
    · rw [if_neg h]; exact Or.inr ⟨h, rfl⟩
/-- the tables are small -/
theorem tab_sm {M : Mem} {p q : Nat} (hB : bnd M p q) (hp : p + q ≤ 96) (ht : tb M p q (fun _ _ => True)) : ∀ n i j l, i ≤ p → j ≤ q → l < 3 → p + q - (i + j) = n → sm (2000000 * n) (M (12 + l) (i * (q + 1) + j)) := by
  intro n
  induction n using Nat.strongRecOn with
  | ind n ih =>
    intro i j l hi hj hl hn
    rw [ht i j l hi hj hl trivial, dpv]
    by_cases e : i = p ∧ j = q
    · rw [if_pos e]; unfold sm
      have : (0 : Int32).toInt = 0 := by decide
      omega
    · rw [if_neg e]
      have hk := lk_sm (B := 2000000 * (n - 1 : Nat)) hB hi hj (by omega) (fun a b l ha hb hl h => sm_mono (ih (p + q - (a + b)) (by omega) a b l ha hb hl rfl) (by omega))
      exact (ch_ok (by omega) ⟨by omega, Int.le_refl _, by omega⟩ hB.2.2.2 hk.1 hk.2.1 hk.2.2 Iff.rfl (by omega)).1 |> fun h => sm_mono h (by omega)
theorem tab_ch {M : Mem} {p q : Nat} (hB : bnd M p q) (hp : p + q ≤ 96) (ht : tb M p q (fun _ _ => True)) : chOK M p q := by
  intro i j l hi hj ha hl
  have hk := lk_sm (B := 2000000 * 96) hB hi hj (by omega) (fun a b l ha hb hl h => sm_mono (tab_sm hB hp ht _ a b l ha hb hl rfl) (by omega))
  have := (ch_ok (C := 300000000) hl ⟨by omega, by omega, by omega⟩ hB.2.2.2 hk.1 hk.2.1 hk.2.2 Iff.rfl ha).2
  exact this
end
section
/-! Merger.unite: the tables -/
theorem plc_inj {a b c d q : Nat} (hb : b ≤ q) (hd : d ≤ q) (h : a * (q + 1) + b = c * (q + 1) + d) : a = c ∧ b = d := by
  have h1 : (a * (q + 1) + b) / (q + 1) = a := by
    rw [Nat.mul_comm, Nat.mul_add_div (by omega), Nat.div_eq_of_lt (by omega)]; omega
  have h2 : (c * (q + 1) + d) / (q + 1) = c := by
    rw [Nat.mul_comm, Nat.mul_add_div (by omega), Nat.div_eq_of_lt (by omega)]; omega
  have h3 : a = c := by rw [← h1, ← h2, h]
  subst h3
  exact ⟨rfl, by omega⟩
theorem dpv_keep {M N : Mem} {p q i j i0 j0 l : Nat} (hN : filP M p q i0 j0 none N) (hi : i ≤ p) (hj : j ≤ q) (hj0 : j0 ≤ q) (h : i0 < i ∨ (i = i0 ∧ j0 ≤ j)) : dpv N p q i j l = dpv M p q i j l := by
  obtain ⟨-, f1, f2, f3, f4, f5⟩ := hN
  have e1 : lkB N p q i j = lkB M p q i j := by
    unfold lkB
    by_cases c : i < p ∧ j < q
    · rw [if_pos c, if_pos c, mtF_congr (f5 6 (by decide) (by omega)) (f5 9 (by decide) (by omega)) (f5 3 (by decide) (by omega))]
      have := f2 0 ((i + 1) * (q + 1) + (j + 1)) (by omega) (fun z => by have := plc_inj (by omega) hj0 z; omega)
      rw [Nat.add_zero] at this
      rw [this]
    · rw [if_neg c, if_neg c]
  have e2 : lkL N p q i j = lkL M p q i j := by
    unfold lkL
    by_cases c : i < p
    · rw [if_pos c, if_pos c, f5 2 (by decide) (by omega), f5 7 (by decide) (by omega), f5 8 (by decide) (by omega)]
      have := f2 1 ((i + 1) * (q + 1) + j) (by omega) (fun z => by have := plc_inj (by omega) hj0 z; omega)
      rw [show 12 + 1 = 13 from rfl] at this
      rw [this]
    · rw [if_neg c, if_neg c]
  have e3 : lkR N p q i j = lkR M p q i j := by
    unfold lkR
    by_cases c : j < q
    · rw [if_pos c, if_pos c, f5 2 (by decide) (by omega), f5 10 (by decide) (by omega), f5 5 (by decide) (by omega)]
      have := f2 2 (i * (q + 1) + (j + 1)) (by omega) (fun z => by have := plc_inj (by omega) hj0 z; omega)
      rw [show 12 + 2 = 14 from rfl] at this
      rw [this]
    · rw [if_neg c, if_neg c]
  unfold dpv
  rw [e1, e2, e3, f4]
theorem tb_step {M N : Mem} {p q i0 j0 : Nat} {D : Nat → Nat → Prop} (hN : filP M p q i0 j0 none N) (hj0 : j0 ≤ q) (hD : ∀ i j, D i j → i0 < i ∨ (i = i0 ∧ j0 < j)) (h : tb M p q D) : tb N p q (fun i j => D i j ∨ (i = i0 ∧ j = j0)) := by
  intro i j l hi hj hl hd
  rcases hd with hd | ⟨rfl, rfl⟩
  · have hlt := hD i j hd
    rw [dpv_keep hN hi hj hj0 (by omega), ← h i j l hi hj hl hd]
    exact hN.2.2.1 l _ hl (fun z => by have := plc_inj hj hj0 z; omega)
  · rw [dpv_keep hN hi hj hj0 (by omega)]
    exact hN.2.1 l hl
theorem tb_mono {M : Mem} {p q : Nat} {D E : Nat → Nat → Prop} (h : tb M p q D) (hE : ∀ i j, i ≤ p → j ≤ q → E i j → D i j) : tb M p q E := fun i j l hi hj hl he => h i j l hi hj hl (hE i j hi hj he)
/-- what filling leaves alone -/
def keepT (R T : Mem) : Prop := T 4 5 = R 4 5 ∧ T 4 6 = R 4 6 ∧ ∀ z, z ≠ 4 → (z < 12 ∨ 14 < z) → T z = R z
theorem l_uni235 {R : Mem} {P Q : Int32} {v p q i : Nat} {Post : Option Value → Mem → Prop} (hm : mrg R p q) (hi : i ≤ p) (hp : ∀ M, keepT R M → tb M p q (fun a c => i < a ∨ (a = i ∧ 0 ≤ c)) → G mX1_unite 91 [some (.ref 4), some (.ref 35), some (.int P), some (.int Q), some (.ref v), some (.int (nI i)), none] [] M Post) : ∀ b M, b ≤ q + 1 → keepT R M → tb M p q (fun a c => i < a ∨ (a = i ∧ b ≤ c)) → G mX1_unite 72 [some (.ref 4), some (.ref 35), some (.int P), some (.int Q), some (.ref v), some (.int (nI i)), some (.int (nI b - nI 1))] [] M Post := by
  have ⟨m1, m2, m3, m4, m5⟩ := hm
  intro b
  induction b with
  | zero =>
    intro M hb i1 i2
    refine blk 1 [(.iload 6, 0, 0, 0)] [] (by decide +kernel) rfl (pc' := 74) (ls' := [some (.ref 4), some (.ref 35), some (.int P), some (.int Q), some (.ref v), some (.int (nI i)), some (.int (nI 0 - nI 1))]) (st' := [.int (nI 0 - nI 1)]) (M' := M) rfl ⟨trivial, trivial⟩ ?_
    refine g_if_lt (off := 17) (tgt := 91) (by decide +kernel) (by decide) (fun c1 => ?_) (fun c1 => ?_)
    · refine G.sub (ls' := [some (.ref 4), some (.ref 35), some (.int P), some (.int Q), some (.ref v), some (.int (nI i)), none]) ?_ ⟨rfl, rfl, rfl, rfl, rfl, rfl, trivial⟩
      exact hp M i1 (tb_mono i2 (fun a c _ _ h => by rcases h with h | h; exact Or.inl h; exact Or.inr ⟨h.1, by omega⟩))
    · exact absurd (by decide) c1
  | succ b ih =>
    intro M hb i1 i2
    have hmM : mrg M p q := ⟨(congrFun (i1.2.2 5 (by decide) (by omega)) 3).trans m1, (congrFun (i1.2.2 8 (by decide) (by omega)) 3).trans m2, m3, m4, m5⟩
    refine blk 1 [(.iload 6, 0, 0, 0)] [] (by decide +kernel) rfl (pc' := 74) (ls' := [some (.ref 4), some (.ref 35), some (.int P), some (.int Q), some (.ref v), some (.int (nI i)), some (.int (nI (b + 1) - nI 1))]) (st' := [.int (nI (b + 1) - nI 1)]) (M' := M) rfl ⟨trivial, trivial⟩ ?_
    refine g_if_lt (off := 17) (tgt := 91) (by decide +kernel) (by decide) (fun c1 => ?_) (fun c1 => ?_)
    · have nc1 : b < 0 := (nI_ltI (by omega) (by omega)).mp (by simpa only [nI_add, pk_mul, nI_s1, n0_lit] using c1)
      exact absurd (nI_s1 b ▸ c1) (nI_pos (by omega))
    · have nc1 : 0 ≤ b := by
        have z : ¬ nI b < nI 0 := by simpa only [nI_add, pk_mul, nI_s1, n0_lit] using c1
        rw [nI_ltI (by omega) (by omega)] at z
        omega
      refine blk 1 [(.aload_n 0, 0, 0, 0), (.iload 5, 0, 0, 0), (.iload 6, 0, 0, 0)] [] (by decide +kernel) rfl (pc' := 82) (ls' := [some (.ref 4), some (.ref 35), some (.int P), some (.int Q), some (.ref v), some (.int (nI i)), some (.int (nI (b + 1) - nI 1))]) (st' := [.int (nI (b + 1) - nI 1), .int (nI i), .ref 4]) (M' := M) rfl ⟨trivial, trivial, trivial, trivial⟩ ?_
      rw [nI_s1]
      refine g_callV (s_mfill M (p := p) (q := q) (i := i) (j := b) hmM hi (by omega)) ok_X1_unite_X1_fill (by decide +kernel) rfl (c := 1) rfl (by decide) rfl (Nat.le_of_ble_eq_true rfl) (fun r N h => ?_) rfl
      have hf : filP M p q i b none N := by have e := h.1; rw [e] at h; exact h
      rw [h.1]
      show G _ 85 [some (.ref 4), some (.ref 35), some (.int P), some (.int Q), some (.ref v), some (.int (nI i)), some (.int (nI b))] [] N _
      refine blk 1 [(.iinc 6 (-1), 0, 0, (-1)), (.goto (-16), 72, 0, 0)] [] (by decide +kernel) rfl (pc' := 72) (ls' := [some (.ref 4), some (.ref 35), some (.int P), some (.int Q), some (.ref v), some (.int (nI i)), some (.int (nI b + (-1)))]) (st' := []) (M' := N) rfl ⟨trivial, trivial, trivial⟩ ?_
      refine G.sub (ls' := [some (.ref 4), some (.ref 35), some (.int P), some (.int Q), some (.ref v), some (.int (nI i)), some (.int (nI b - nI 1))]) ?_ ⟨rfl, rfl, rfl, rfl, rfl, rfl, congrArg (fun z => some (Value.int z)) (dec1 _), trivial⟩
      refine ih N (by omega) ⟨hf.2.2.2.1.trans i1.1, hf.2.2.2.2.1.trans i1.2.1, fun z h4 h5 => (hf.2.2.2.2.2 z h4 h5).trans (i1.2.2 z h4 h5)⟩ ?_
      refine tb_mono (tb_step hf (by omega) (fun a c h => ?_) i2) (fun a c _ _ h => ?_)
      · rcases h with h | h
        · exact Or.inl h
        · exact Or.inr ⟨h.1, by omega⟩
      · rcases h with h | h
        · exact Or.inl (Or.inl h)
        · by_cases e : c = b
          · exact Or.inr ⟨h.1, e⟩
          · exact Or.inl (Or.inr ⟨h.1, by omega⟩)
theorem l_uni35 {R : Mem} {P Q : Int32} {v p q : Nat} {Post : Option Value → Mem → Prop} (hm : mrg R p q) (hp : ∀ M, keepT R M → tb M p q (fun _ _ => True) → G mX1_unite 97 [some (.ref 4), some (.ref 35), some (.int P), some (.int Q), some (.ref v), none, none] [] M Post) : ∀ a M, a ≤ p + 1 → keepT R M → tb M p q (fun c _ => a ≤ c) → G mX1_unite 58 [some (.ref 4), some (.ref 35), some (.int P), some (.int Q), some (.ref v), some (.int (nI a - nI 1)), none] [] M Post := by
  have ⟨m1, m2, m3, m4, m5⟩ := hm
  intro a
  induction a with
  | zero =>
    intro M hb i1 i2
    refine blk 1 [(.iload 5, 0, 0, 0)] [] (by decide +kernel) rfl (pc' := 60) (ls' := [some (.ref 4), some (.ref 35), some (.int P), some (.int Q), some (.ref v), some (.int (nI 0 - nI 1)), none]) (st' := [.int (nI 0 - nI 1)]) (M' := M) rfl ⟨trivial, trivial⟩ ?_
    refine g_if_lt (off := 37) (tgt := 97) (by decide +kernel) (by decide) (fun c1 => ?_) (fun c1 => ?_)
    · refine G.sub (ls' := [some (.ref 4), some (.ref 35), some (.int P), some (.int Q), some (.ref v), none, none]) ?_ ⟨rfl, rfl, rfl, rfl, rfl, trivial⟩
      exact hp M i1 (tb_mono i2 (fun a c _ _ _ => by omega))
    · exact absurd (by decide) c1
  | succ a ih =>
    intro M hb i1 i2
    have hmM : mrg M p q := ⟨(congrFun (i1.2.2 5 (by decide) (by omega)) 3).trans m1, (congrFun (i1.2.2 8 (by decide) (by omega)) 3).trans m2, m3, m4, m5⟩
    refine blk 1 [(.iload 5, 0, 0, 0)] [] (by decide +kernel) rfl (pc' := 60) (ls' := [some (.ref 4), some (.ref 35), some (.int P), some (.int Q), some (.ref v), some (.int (nI (a + 1) - nI 1)), none]) (st' := [.int (nI (a + 1) - nI 1)]) (M' := M) rfl ⟨trivial, trivial⟩ ?_
    refine g_if_lt (off := 37) (tgt := 97) (by decide +kernel) (by decide) (fun c1 => ?_) (fun c1 => ?_)
    · have nc1 : a < 0 := (nI_ltI (by omega) (by omega)).mp (by simpa only [nI_add, pk_mul, nI_s1, n0_lit] using c1)
      exact absurd (nI_s1 a ▸ c1) (nI_pos (by omega))
    · have nc1 : 0 ≤ a := by
        have z : ¬ nI a < nI 0 := by simpa only [nI_add, pk_mul, nI_s1, n0_lit] using c1
        rw [nI_ltI (by omega) (by omega)] at z
        omega
      refine blk 1 [(.aload_n 0, 0, 0, 0), (.getfield 18, 1, 2, 0), (.getfield 50, 4, 3, 0), (.istore 6, 0, 0, 0)] [] (by decide +kernel) rfl (pc' := 72) (ls' := [some (.ref 4), some (.ref 35), some (.int P), some (.int Q), some (.ref v), some (.int (nI (a + 1) - nI 1)), some (.int (M 8 3))]) (st' := []) (M' := M) rfl ⟨trivial, rfl, rfl, trivial, trivial⟩ ?_
      refine G.sub (ls' := [some (.ref 4), some (.ref 35), some (.int P), some (.int Q), some (.ref v), some (.int (nI a)), some (.int (nI (q + 1) - nI 1))]) ?_ ⟨rfl, rfl, rfl, rfl, rfl, congrArg (fun z => some (Value.int z)) (nI_s1 a), congrArg (fun z => some (Value.int z)) (hmM.2.1.trans (nI_s1 q).symm), trivial⟩
      refine l_uni235 hm (by omega) (fun N k1 k2 => ?_) (q + 1) M (Nat.le_refl _) i1 (tb_mono i2 (fun c d _ hd h => by rcases h with h | h; exact (by omega); exact absurd h.2 (by omega)))
      refine blk 1 [(.iinc 5 (-1), 0, 0, (-1)), (.goto (-36), 58, 0, 0)] [] (by decide +kernel) rfl (pc' := 58) (ls' := [some (.ref 4), some (.ref 35), some (.int P), some (.int Q), some (.ref v), some (.int (nI a + (-1))), none]) (st' := []) (M' := N) rfl ⟨trivial, trivial, trivial⟩ ?_
      refine G.sub (ls' := [some (.ref 4), some (.ref 35), some (.int P), some (.int Q), some (.ref v), some (.int (nI a - nI 1)), none]) ?_ ⟨rfl, rfl, rfl, rfl, rfl, congrArg (fun z => some (Value.int z)) (dec1 _), trivial⟩
      exact ih N (by omega) k1 (tb_mono k2 (fun c d _ _ h => by rcases Nat.lt_or_ge a c with z | z; exact Or.inl z; exact Or.inr ⟨by omega, by omega⟩))
theorem l_uni237 {R : Mem} {P Q : Int32} {v p q i : Nat} {Post : Option Value → Mem → Prop} (hm : mrg R p q) (hi : i ≤ p) (hp : ∀ M, keepT R M → tb M p q (fun a c => i < a ∨ (a = i ∧ 0 ≤ c)) → G mX1_unite 91 [some (.ref 4), some (.ref 37), some (.int P), some (.int Q), some (.ref v), some (.int (nI i)), none] [] M Post) : ∀ b M, b ≤ q + 1 → keepT R M → tb M p q (fun a c => i < a ∨ (a = i ∧ b ≤ c)) → G mX1_unite 72 [some (.ref 4), some (.ref 37), some (.int P), some (.int Q), some (.ref v), some (.int (nI i)), some (.int (nI b - nI 1))] [] M Post := by
  have ⟨m1, m2, m3, m4, m5⟩ := hm
  intro b
  induction b with
  | zero =>
    intro M hb i1 i2
    refine blk 1 [(.iload 6, 0, 0, 0)] [] (by decide +kernel) rfl (pc' := 74) (ls' := [some (.ref 4), some (.ref 37), some (.int P), some (.int Q), some (.ref v), some (.int (nI i)), some (.int (nI 0 - nI 1))]) (st' := [.int (nI 0 - nI 1)]) (M' := M) rfl ⟨trivial, trivial⟩ ?_
    refine g_if_lt (off := 17) (tgt := 91) (by decide +kernel) (by decide) (fun c1 => ?_) (fun c1 => ?_)
    · refine G.sub (ls' := [some (.ref 4), some (.ref 37), some (.int P), some (.int Q), some (.ref v), some (.int (nI i)), none]) ?_ ⟨rfl, rfl, rfl, rfl, rfl, rfl, trivial⟩
      exact hp M i1 (tb_mono i2 (fun a c _ _ h => by rcases h with h | h; exact Or.inl h; exact Or.inr ⟨h.1, by omega⟩))
    · exact absurd (by decide) c1
  | succ b ih =>
    intro M hb i1 i2
    have hmM : mrg M p q := ⟨(congrFun (i1.2.2 5 (by decide) (by omega)) 3).trans m1, (congrFun (i1.2.2 8 (by decide) (by omega)) 3).trans m2, m3, m4, m5⟩
    refine blk 1 [(.iload 6, 0, 0, 0)] [] (by decide +kernel) rfl (pc' := 74) (ls' := [some (.ref 4), some (.ref 37), some (.int P), some (.int Q), some (.ref v), some (.int (nI i)), some (.int (nI (b + 1) - nI 1))]) (st' := [.int (nI (b + 1) - nI 1)]) (M' := M) rfl ⟨trivial, trivial⟩ ?_
    refine g_if_lt (off := 17) (tgt := 91) (by decide +kernel) (by decide) (fun c1 => ?_) (fun c1 => ?_)
    · have nc1 : b < 0 := (nI_ltI (by omega) (by omega)).mp (by simpa only [nI_add, pk_mul, nI_s1, n0_lit] using c1)
      exact absurd (nI_s1 b ▸ c1) (nI_pos (by omega))
    · have nc1 : 0 ≤ b := by
        have z : ¬ nI b < nI 0 := by simpa only [nI_add, pk_mul, nI_s1, n0_lit] using c1
        rw [nI_ltI (by omega) (by omega)] at z
        omega
      refine blk 1 [(.aload_n 0, 0, 0, 0), (.iload 5, 0, 0, 0), (.iload 6, 0, 0, 0)] [] (by decide +kernel) rfl (pc' := 82) (ls' := [some (.ref 4), some (.ref 37), some (.int P), some (.int Q), some (.ref v), some (.int (nI i)), some (.int (nI (b + 1) - nI 1))]) (st' := [.int (nI (b + 1) - nI 1), .int (nI i), .ref 4]) (M' := M) rfl ⟨trivial, trivial, trivial, trivial⟩ ?_
      rw [nI_s1]
      refine g_callV (s_mfill M (p := p) (q := q) (i := i) (j := b) hmM hi (by omega)) ok_X1_unite_X1_fill (by decide +kernel) rfl (c := 1) rfl (by decide) rfl (Nat.le_of_ble_eq_true rfl) (fun r N h => ?_) rfl
      have hf : filP M p q i b none N := by have e := h.1; rw [e] at h; exact h
      rw [h.1]
      show G _ 85 [some (.ref 4), some (.ref 37), some (.int P), some (.int Q), some (.ref v), some (.int (nI i)), some (.int (nI b))] [] N _
      refine blk 1 [(.iinc 6 (-1), 0, 0, (-1)), (.goto (-16), 72, 0, 0)] [] (by decide +kernel) rfl (pc' := 72) (ls' := [some (.ref 4), some (.ref 37), some (.int P), some (.int Q), some (.ref v), some (.int (nI i)), some (.int (nI b + (-1)))]) (st' := []) (M' := N) rfl ⟨trivial, trivial, trivial⟩ ?_
      refine G.sub (ls' := [some (.ref 4), some (.ref 37), some (.int P), some (.int Q), some (.ref v), some (.int (nI i)), some (.int (nI b - nI 1))]) ?_ ⟨rfl, rfl, rfl, rfl, rfl, rfl, congrArg (fun z => some (Value.int z)) (dec1 _), trivial⟩
      refine ih N (by omega) ⟨hf.2.2.2.1.trans i1.1, hf.2.2.2.2.1.trans i1.2.1, fun z h4 h5 => (hf.2.2.2.2.2 z h4 h5).trans (i1.2.2 z h4 h5)⟩ ?_
      refine tb_mono (tb_step hf (by omega) (fun a c h => ?_) i2) (fun a c _ _ h => ?_)
      · rcases h with h | h
        · exact Or.inl h
        · exact Or.inr ⟨h.1, by omega⟩
      · rcases h with h | h
        · exact Or.inl (Or.inl h)
        · by_cases e : c = b
          · exact Or.inr ⟨h.1, e⟩
          · exact Or.inl (Or.inr ⟨h.1, by omega⟩)
theorem l_uni37 {R : Mem} {P Q : Int32} {v p q : Nat} {Post : Option Value → Mem → Prop} (hm : mrg R p q) (hp : ∀ M, keepT R M → tb M p q (fun _ _ => True) → G mX1_unite 97 [some (.ref 4), some (.ref 37), some (.int P), some (.int Q), some (.ref v), none, none] [] M Post) : ∀ a M, a ≤ p + 1 → keepT R M → tb M p q (fun c _ => a ≤ c) → G mX1_unite 58 [some (.ref 4), some (.ref 37), some (.int P), some (.int Q), some (.ref v), some (.int (nI a - nI 1)), none] [] M Post := by
  have ⟨m1, m2, m3, m4, m5⟩ := hm
  intro a
  induction a with
  | zero =>
    intro M hb i1 i2
    refine blk 1 [(.iload 5, 0, 0, 0)] [] (by decide +kernel) rfl (pc' := 60) (ls' := [some (.ref 4), some (.ref 37), some (.int P), some (.int Q), some (.ref v), some (.int (nI 0 - nI 1)), none]) (st' := [.int (nI 0 - nI 1)]) (M' := M) rfl ⟨trivial, trivial⟩ ?_
    refine g_if_lt (off := 37) (tgt := 97) (by decide +kernel) (by decide) (fun c1 => ?_) (fun c1 => ?_)
    · refine G.sub (ls' := [some (.ref 4), some (.ref 37), some (.int P), some (.int Q), some (.ref v), none, none]) ?_ ⟨rfl, rfl, rfl, rfl, rfl, trivial⟩
      exact hp M i1 (tb_mono i2 (fun a c _ _ _ => by omega))
    · exact absurd (by decide) c1
  | succ a ih =>
    intro M hb i1 i2
    have hmM : mrg M p q := ⟨(congrFun (i1.2.2 5 (by decide) (by omega)) 3).trans m1, (congrFun (i1.2.2 8 (by decide) (by omega)) 3).trans m2, m3, m4, m5⟩
    refine blk 1 [(.iload 5, 0, 0, 0)] [] (by decide +kernel) rfl (pc' := 60) (ls' := [some (.ref 4), some (.ref 37), some (.int P), some (.int Q), some (.ref v), some (.int (nI (a + 1) - nI 1)), none]) (st' := [.int (nI (a + 1) - nI 1)]) (M' := M) rfl ⟨trivial, trivial⟩ ?_
    refine g_if_lt (off := 37) (tgt := 97) (by decide +kernel) (by decide) (fun c1 => ?_) (fun c1 => ?_)
    · have nc1 : a < 0 := (nI_ltI (by omega) (by omega)).mp (by simpa only [nI_add, pk_mul, nI_s1, n0_lit] using c1)
      exact absurd (nI_s1 a ▸ c1) (nI_pos (by omega))
    · have nc1 : 0 ≤ a := by
        have z : ¬ nI a < nI 0 := by simpa only [nI_add, pk_mul, nI_s1, n0_lit] using c1
        rw [nI_ltI (by omega) (by omega)] at z
        omega
      refine blk 1 [(.aload_n 0, 0, 0, 0), (.getfield 18, 1, 2, 0), (.getfield 50, 4, 3, 0), (.istore 6, 0, 0, 0)] [] (by decide +kernel) rfl (pc' := 72) (ls' := [some (.ref 4), some (.ref 37), some (.int P), some (.int Q), some (.ref v), some (.int (nI (a + 1) - nI 1)), some (.int (M 8 3))]) (st' := []) (M' := M) rfl ⟨trivial, rfl, rfl, trivial, trivial⟩ ?_
      refine G.sub (ls' := [some (.ref 4), some (.ref 37), some (.int P), some (.int Q), some (.ref v), some (.int (nI a)), some (.int (nI (q + 1) - nI 1))]) ?_ ⟨rfl, rfl, rfl, rfl, rfl, congrArg (fun z => some (Value.int z)) (nI_s1 a), congrArg (fun z => some (Value.int z)) (hmM.2.1.trans (nI_s1 q).symm), trivial⟩
      refine l_uni237 hm (by omega) (fun N k1 k2 => ?_) (q + 1) M (Nat.le_refl _) i1 (tb_mono i2 (fun c d _ hd h => by rcases h with h | h; exact (by omega); exact absurd h.2 (by omega)))
      refine blk 1 [(.iinc 5 (-1), 0, 0, (-1)), (.goto (-36), 58, 0, 0)] [] (by decide +kernel) rfl (pc' := 58) (ls' := [some (.ref 4), some (.ref 37), some (.int P), some (.int Q), some (.ref v), some (.int (nI a + (-1))), none]) (st' := []) (M' := N) rfl ⟨trivial, trivial, trivial⟩ ?_
      refine G.sub (ls' := [some (.ref 4), some (.ref 37), some (.int P), some (.int Q), some (.ref v), some (.int (nI a - nI 1)), none]) ?_ ⟨rfl, rfl, rfl, rfl, rfl, congrArg (fun z => some (Value.int z)) (dec1 _), trivial⟩
      exact ih N (by omega) k1 (tb_mono k2 (fun c d _ _ h => by rcases Nat.lt_or_ge a c with z | z; exact Or.inl z; exact Or.inr ⟨by omega, by omega⟩))
end
section
/-! Merger.unite -/
/-- the steps of the walk -/
def stF (T : Mem) (p q : Nat) : Nat → Int32 := fun k => nI (wst T p q (k + 1)).2.2
theorem ncnt_congr {f g : Nat → Int32} {x : Int32} {n : Nat} (h : ∀ k, k < n → f k = g k) : ncnt f x n = ncnt g x n := by
  induction n with
  | zero => rfl
  | succ n ih => rw [ncnt, ncnt, ih (fun k hk => h k (by omega)), h n (by omega)]
theorem wst_le (T : Mem) (p q n : Nat) : (wst T p q n).2.2 ≤ 2 := by
  cases n with
  | zero => exact Nat.zero_le 2
  | succ n => exact chV_le _ _ _ _ _
theorem wst_P (T : Mem) (p q n : Nat) : (wst T p q n).1 = ncnt (stF T p q) (nI 2) n := by
  induction n with
  | zero => rfl
  | succ n ih =>
    rw [ncnt, ← ih]
    show (wst T p q n).1 + _ = _
    congr 1
    unfold stF
    have h := wst_le T p q (n + 1)
    have e : nI (wst T p q (n + 1)).2.2 = nI 2 ↔ (wst T p q (n + 1)).2.2 = 2 := nI_eq (by omega) (by omega)
    by_cases c : (wst T p q (n + 1)).2.2 = 2
    · rw [if_pos (e.mpr c)]; exact if_pos c
    · rw [if_neg (fun z => c (e.mp z))]; exact if_neg c
theorem wst_Q (T : Mem) (p q n : Nat) : (wst T p q n).2.1 = ncnt (stF T p q) (nI 1) n := by
  induction n with
  | zero => rfl
  | succ n ih =>
    rw [ncnt, ← ih]
    show (wst T p q n).2.1 + _ = _
    congr 1
    unfold stF
    have h := wst_le T p q (n + 1)
    have e : nI (wst T p q (n + 1)).2.2 = nI 1 ↔ (wst T p q (n + 1)).2.2 = 1 := nI_eq (by omega) (by omega)
    by_cases c : (wst T p q (n + 1)).2.2 = 1
    · rw [if_pos (e.mpr c)]; exact if_pos c
    · rw [if_neg (fun z => c (e.mp z))]; exact if_neg c
/-- the sides as read, and the price of opening -/
def uR (M R : Mem) (B : Nat) (P Q : Int32) (v p q : Nat) : Prop := R 5 2 = psum (whF M P v) 5 ∧ R 8 2 = psum (whF M Q v) 5 ∧ R 5 3 = nI p ∧ R 8 3 = nI q ∧ (∀ k x, k < p → x < 4 → R 6 (k * 4 + x) = psum (letF M B P v k x) 5) ∧ (∀ k, k < p → R 7 k = psum (preF M B P v k) 5) ∧ (∀ k x, k < q → x < 4 → R 9 (k * 4 + x) = psum (letF M B Q v k x) 5) ∧ (∀ k, k < q → R 10 k = psum (preF M B Q v k) 5) ∧ R 4 6 = M 2 1 * R 5 2 * R 8 2 ∧ ∀ z, (z < 4 ∨ 10 < z) → R z = M z
/-- n steps lead to the end, and not fewer -/
def wlk (T : Mem) (p q n : Nat) : Prop := n ≤ p + q ∧ (wst T p q n).1 = p ∧ (wst T p q n).2.1 = q ∧ ∀ k, k < n → ((wst T p q k).1 ≤ p ∧ (wst T p q k).2.1 ≤ q ∧ ((wst T p q k).1 < p ∨ (wst T p q k).2.1 < q))
def uniP (M : Mem) (B : Nat) (P Q : Int32) (v p q : Nat) : Option Value → Mem → Prop := fun r F => ∃ (R T : Mem) (n : Nat), uR M R B P Q v p q ∧ keepT R T ∧ tb T p q (fun _ _ => True) ∧ bnd T p q ∧ wlk T p q n ∧ r = some (.int (T 12 0)) ∧
  (∀ a, a < 5 → ¬ hb P a = 0 → F (B + a) 1 = nI n ∧ ∀ j, j < n → F (B + a + 5) j = if stF T p q j = nI 2 then -1 else M (B + a + 5) (ncnt (stF T p q) (nI 2) j)) ∧
  (∀ a, a < 5 → ¬ hb Q a = 0 → F (B + a) 1 = nI n ∧ ∀ j, j < n → F (B + a + 5) j = if stF T p q j = nI 1 then -1 else M (B + a + 5) (ncnt (stF T p q) (nI 1) j)) ∧
  ∀ z, (z < 4 ∨ 15 < z) → (∀ a, a < 5 → (¬ hb P a = 0 ∨ ¬ hb Q a = 0) → z ≠ B + a ∧ z ≠ B + a + 5) → F z = M z
theorem bnd_keep {R T : Mem} {p q : Nat} (h : keepT R T) (hb : bnd R p q) : bnd T p q := by
  obtain ⟨-, h2, h3⟩ := h
  unfold bnd at *
  rw [h2, h3 2 (by decide) (by omega), h3 7 (by decide) (by omega), h3 8 (by decide) (by omega), h3 10 (by decide) (by omega), h3 5 (by decide) (by omega)]
  exact ⟨fun i j hi hj => by rw [mtF_congr (h3 6 (by decide) (by omega)) (h3 9 (by decide) (by omega)) (h3 3 (by decide) (by omega))]; exact hb.1 i j hi hj, hb.2⟩
theorem l_uni335 {M R T : Mem} {P Q : Int32} {v p q : Nat} (hv : al v = 5) (hv2 : 10 < v) (hp : p ≤ 48) (hq : q ≤ 48) (hpq : p + q ≤ 60) (hroom : (p + 1) * (q + 1) ≤ 925) (hWP : ∀ a, a < 5 → ¬ hb P a = 0 → M (51 + a) 1 = nI p) (hWQ : ∀ a, a < 5 → ¬ hb Q a = 0 → M (51 + a) 1 = nI q) (hdis : ∀ a, a < 5 → ¬ hb P a = 0 → ¬ ¬ hb Q a = 0) (hR : uR M R 51 P Q v p q) (hk : keepT R T) (ht : tb T p q (fun _ _ => True)) (hbT : bnd T p q) : G mX1_unite 97 [some (.ref 4), some (.ref 35), some (.int P), some (.int Q), some (.ref v), none, none] [] T (uniP M 51 P Q v p q) := by
  have hmT : mrg T p q := ⟨(congrFun (hk.2.2 5 (by decide) (by omega)) 3).trans hR.2.2.1, (congrFun (hk.2.2 8 (by decide) (by omega)) 3).trans hR.2.2.2.1, hp, hq, hroom⟩
  refine blk 1 [(.aload_n 0, 0, 0, 0)] [] (by decide +kernel) rfl (pc' := 98) (ls' := [some (.ref 4), some (.ref 35), some (.int P), some (.int Q), some (.ref v), none, none]) (st' := [.ref 4]) (M' := T) rfl ⟨trivial, trivial⟩ ?_
  refine g_callV (s_walk T (p := p) (q := q) hmT hpq (tab_ch hbT (by omega) ht)) ok_X1_unite_X1_walk (by decide +kernel) rfl (c := 1) rfl (by decide) rfl (Nat.le_of_ble_eq_true rfl) (fun r W h => ?_) rfl
  obtain ⟨hr, n, n1, n2, n3, n4, w5, w15, w6, wz⟩ := h
  rw [hr]
  have eS : ∀ g, ncnt (W 15) g n = ncnt (stF T p q) g n := fun g => ncnt_congr (fun k hk => w15 k hk)
  have eW : ∀ z, (z < 4 ∨ 15 < z) → W z = M z := fun z hz => by rw [wz z (by omega) (by omega), hk.2.2 z (by omega) (by omega)]; exact hR.2.2.2.2.2.2.2.2.2 z (by omega)
  show G _ 101 [some (.ref 4), some (.ref 35), some (.int P), some (.int Q), some (.ref v), none, none] [] W _
  refine blk 1 [(.aload_n 1, 0, 0, 0), (.iload_n 2, 0, 0, 0), (.aload_n 0, 0, 0, 0), (.getfield 26, 1, 4, 0), (.aload_n 0, 0, 0, 0), (.getfield 60, 1, 5, 0), (.iconst 2, 0, 0, (nI 2))] [] (by decide +kernel) rfl (pc' := 112) (ls' := [some (.ref 4), some (.ref 35), some (.int P), some (.int Q), some (.ref v), none, none]) (st' := [.int (nI 2), .int (W 4 5), .ref 15, .int P, .ref 35]) (M' := W) rfl ⟨trivial, trivial, trivial, rfl, trivial, rfl, trivial, trivial⟩ ?_
  rw [w5]
  refine g_callV (s_sspread35 W (n := n) (S := P) (g := nI 2) (by omega) (fun a h1 h2 => by rw [eS, ← wst_P, n2, eW _ (by omega)]; exact hWP a h1 h2)) ok_X1_unite_X3_spread (by decide +kernel) rfl (c := 3) rfl (by decide) rfl (Nat.le_of_ble_eq_true rfl) (fun r X h => ?_) rfl
  obtain ⟨hr, x1, x2⟩ := h
  rw [hr]
  have x4 : X 4 = W 4 := x2 4 (fun a _ _ => by omega)
  have x15 : X 15 = W 15 := x2 15 (fun a _ _ => by omega)
  show G _ 115 [some (.ref 4), some (.ref 35), some (.int P), some (.int Q), some (.ref v), none, none] [] X _
  refine blk 1 [(.aload_n 1, 0, 0, 0), (.iload_n 3, 0, 0, 0), (.aload_n 0, 0, 0, 0), (.getfield 26, 1, 4, 0), (.aload_n 0, 0, 0, 0), (.getfield 60, 1, 5, 0), (.iconst 1, 0, 0, (nI 1))] [] (by decide +kernel) rfl (pc' := 126) (ls' := [some (.ref 4), some (.ref 35), some (.int P), some (.int Q), some (.ref v), none, none]) (st' := [.int (nI 1), .int (X 4 5), .ref 15, .int Q, .ref 35]) (M' := X) rfl ⟨trivial, trivial, trivial, rfl, trivial, rfl, trivial, trivial⟩ ?_
  rw [show X 4 5 = nI n by rw [x4]; exact w5]
  refine g_callV (s_sspread35 X (n := n) (S := Q) (g := nI 1) (by omega) (fun a h1 h2 => by rw [x15, eS, ← wst_Q, n3, x2 _ (fun c _ h4 => ⟨fun e => by rw [show a = c by omega] at h2; exact hdis c (by omega) h4 h2, by omega⟩), eW _ (by omega)]; exact hWQ a h1 h2)) ok_X1_unite_X3_spread (by decide +kernel) rfl (c := 3) rfl (by decide) rfl (Nat.le_of_ble_eq_true rfl) (fun r F h => ?_) rfl
  obtain ⟨hr, y1, y2⟩ := h
  rw [hr]
  show G _ 129 [some (.ref 4), some (.ref 35), some (.int P), some (.int Q), some (.ref v), none, none] [] F _
  refine blk 1 [(.aload_n 0, 0, 0, 0), (.getfield 23, 1, 3, 0), (.iconst 0, 0, 0, (nI 0)), (.aaload, 0, 0, 0), (.iconst 0, 0, 0, (nI 0)), (.iaload, 0, 0, 0)] [0, 0] (by decide +kernel) rfl (pc' := 137) (ls' := [some (.ref 4), some (.ref 35), some (.int P), some (.int Q), some (.ref v), none, none]) (st' := [.int (F 12 0)]) (M' := F) rfl ⟨trivial, rfl, trivial, ⟨rfl, (by decide)⟩, trivial, ⟨rfl, (by decide)⟩, trivial⟩ ?_
  refine g_ireturn (by decide +kernel) rfl rfl ⟨R, T, n, hR, hk, ht, hbT, ⟨n1, n2, n3, n4⟩, ?_, fun a h1 h2 => ?_, fun a h1 h2 => ?_, fun z h1 h2 => ?_⟩
  · rw [y2 12 (fun a _ _ => by omega), x2 12 (fun a _ _ => by omega), wz 12 (by decide) (by decide)]
  · have d := x1 a h1 h2
    rw [y2 (51 + a) (fun c _ h4 => ⟨fun e => by rw [show a = c by omega] at h2; exact hdis c (by omega) h2 h4, by omega⟩), y2 (51 + a + 5) (fun c _ h4 => ⟨by omega, fun e => by rw [show a = c by omega] at h2; exact hdis c (by omega) h2 h4⟩)]
    refine ⟨d.1, fun j hj => ?_⟩
    rw [d.2 j hj, w15 j hj, eW (51 + a + 5) (by omega), ncnt_congr (g := stF T p q) (fun k hk => w15 k (by omega))]; rfl
  · have d := y1 a h1 h2
    refine ⟨d.1, fun j hj => ?_⟩
    rw [d.2 j hj, x15, w15 j hj, x2 (51 + a + 5) (fun c _ h4 => ⟨by omega, fun e => by rw [show a = c by omega] at h2; exact hdis c (by omega) h4 h2⟩), eW (51 + a + 5) (by omega), ncnt_congr (g := stF T p q) (fun k hk => w15 k (by omega))]; rfl
  · rw [y2 z (fun c h3 h4 => h2 c h3 (Or.inr h4)), x2 z (fun c h3 h4 => h2 c h3 (Or.inl h4)), eW z h1]
theorem s_unite35 (M : Mem) {P Q : Int32} {v p q : Nat} (hv : al v = 5) (hv2 : 10 < v) (hp : p ≤ 48) (hq : q ≤ 48) (hpq : p + q ≤ 60) (hroom : (p + 1) * (q + 1) ≤ 925) (hWP : ∀ a, a < 5 → ¬ hb P a = 0 → M (51 + a) 1 = nI p) (hWQ : ∀ a, a < 5 → ¬ hb Q a = 0 → M (51 + a) 1 = nI q) (hdis : ∀ a, a < 5 → ¬ hb P a = 0 → ¬ ¬ hb Q a = 0) (hcP : ∀ a k, a < 5 → ¬ hb P a = 0 → k < p → okc (M (51 + a + 5) k)) (hcQ : ∀ a k, a < 5 → ¬ hb Q a = 0 → k < q → okc (M (51 + a + 5) k)) (hnP : ∃ a, a < 5 ∧ ¬ hb P a = 0) (hnQ : ∃ a, a < 5 ∧ ¬ hb Q a = 0) (hbd : ∀ R, uR M R 51 P Q v p q → bnd R p q) : Spec mX1_unite [.ref 4, .ref 35, .int P, .int Q, .ref v] M (uniP M 51 P Q v p q) := by
  refine Spec.of (by decide) (by simp [Value.category]) (Nat.le_of_ble_eq_true rfl) ?_
  refine blk 1 [(.aload_n 0, 0, 0, 0), (.getfield 12, 1, 1, 0), (.aload_n 1, 0, 0, 0), (.iload_n 2, 0, 0, 0), (.aload 4, 0, 0, 0)] [] (by decide +kernel) rfl (pc' := 8) (ls' := [some (.ref 4), some (.ref 35), some (.int P), some (.int Q), some (.ref v), none, none]) (st' := [.ref v, .int P, .ref 35, .ref 5]) (M' := M) rfl ⟨trivial, rfl, trivial, trivial, trivial, trivial⟩ ?_
  refine g_callV (s_read5_35 M P (v := v) (w := p) hv hv2 hp hWP (fun a k h1 h2 h3 => hcP a k h1 h2 h3) hnP) ok_X1_unite_X4_read (by decide +kernel) rfl (c := 4) rfl (by decide) rfl (Nat.le_of_ble_eq_true rfl) (fun r A h => ?_) rfl
  obtain ⟨hr, a1, a2, a3, a4, a5⟩ := h
  rw [hr]
  show G _ 11 [some (.ref 4), some (.ref 35), some (.int P), some (.int Q), some (.ref v), none, none] [] A _
  refine blk 1 [(.aload_n 0, 0, 0, 0), (.getfield 18, 1, 2, 0), (.aload_n 1, 0, 0, 0), (.iload_n 3, 0, 0, 0), (.aload 4, 0, 0, 0)] [] (by decide +kernel) rfl (pc' := 19) (ls' := [some (.ref 4), some (.ref 35), some (.int P), some (.int Q), some (.ref v), none, none]) (st' := [.ref v, .int Q, .ref 35, .ref 8]) (M' := A) rfl ⟨trivial, rfl, trivial, trivial, trivial, trivial⟩ ?_
  refine g_callV (s_read8_35 A Q (v := v) (w := q) hv hv2 hq (fun a h1 h2 => by rw [a5 _ (by omega) (by omega)]; exact hWQ a h1 h2) (fun a k h1 h2 h3 => by rw [a5 _ (by omega) (by omega)]; exact hcQ a k h1 h2 h3) hnQ) ok_X1_unite_X4_read (by decide +kernel) rfl (c := 4) rfl (by decide) rfl (Nat.le_of_ble_eq_true rfl) (fun r C h => ?_) rfl
  obtain ⟨hr, b1, b2, b3, b4, b5⟩ := h
  rw [hr]
  show G _ 22 [some (.ref 4), some (.ref 35), some (.int P), some (.int Q), some (.ref v), none, none] [] C _
  refine blk 1 [(.aload_n 0, 0, 0, 0), (.aload_n 0, 0, 0, 0), (.getfield 30, 1, 0, 0), (.getfield 38, 0, 1, 0), (.aload_n 0, 0, 0, 0), (.getfield 12, 1, 1, 0), (.getfield 44, 4, 2, 0), (.imul, 0, 0, 0), (.aload_n 0, 0, 0, 0), (.getfield 18, 1, 2, 0), (.getfield 44, 4, 2, 0), (.imul, 0, 0, 0), (.putfield 47, 1, 6, 0), (.aload_n 0, 0, 0, 0), (.getfield 12, 1, 1, 0), (.getfield 50, 4, 3, 0), (.istore 5, 0, 0, 0)] [] (by decide +kernel) rfl (pc' := 58) (ls' := [some (.ref 4), some (.ref 35), some (.int P), some (.int Q), some (.ref v), some (.int (C 5 3)), none]) (st' := []) (M' := stm C 4 6 (((C 2 1) * (C 5 2)) * (C 8 2))) rfl ⟨trivial, trivial, rfl, rfl, trivial, rfl, rfl, trivial, trivial, rfl, rfl, trivial, rfl, trivial, rfl, rfl, trivial, trivial⟩ ?_
  generalize hRe : stm C 4 6 (((C 2 1) * (C 5 2)) * (C 8 2)) = R
  have r0 : ∀ z, z ≠ 4 → R z = C z := fun z hz => by rw [← hRe, stm_ne hz]
  have rz : ∀ z, (z < 4 ∨ 10 < z) → R z = M z := fun z hz => by rw [r0 z (by omega), b5 z (by omega) (by omega), a5 z (by omega) (by omega)]
  have hR : uR M R 51 P Q v p q := by
    refine ⟨?_, ?_, ?_, ?_, fun k x hk hx => ?_, fun k hk => ?_, fun k x hk hx => ?_, fun k hk => ?_, ?_, rz⟩
    · rw [r0 5 (by decide), b5 5 (by omega) (by decide)]; exact a1
    · rw [r0 8 (by decide), b1]; exact psum_congr (fun j hj => by simp only [whF]; rw [a5 v (by omega) (by omega)])
    · rw [r0 5 (by decide), b5 5 (by omega) (by decide)]; exact a2
    · rw [r0 8 (by decide)]; exact b2
    · rw [r0 6 (by decide), b5 6 (by omega) (by decide)]; exact a3 k x hk hx
    · rw [r0 7 (by decide), b5 7 (by omega) (by decide)]; exact a4 k hk
    · rw [r0 9 (by decide)]; rw [show C 9 (k * 4 + x) = _ from b3 k x hk hx]; exact psum_congr (fun j hj => by simp only [letF]; rw [a5 v (by omega) (by omega), a5 (51 + j + 5) (by omega) (by omega)])
    · rw [r0 10 (by decide)]; rw [show C 10 k = _ from b4 k hk]; exact psum_congr (fun j hj => by simp only [preF]; rw [a5 v (by omega) (by omega), a5 (51 + j + 5) (by omega) (by omega)])
    · rw [r0 5 (by decide), r0 8 (by decide), ← hRe, stm_self, b5 2 (by omega) (by decide), a5 2 (by omega) (by decide)]
  have hm : mrg R p q := ⟨hR.2.2.1, hR.2.2.2.1, hp, hq, hroom⟩
  refine G.sub (ls' := [some (.ref 4), some (.ref 35), some (.int P), some (.int Q), some (.ref v), some (.int (nI (p + 1) - nI 1)), none]) ?_ ⟨rfl, rfl, rfl, rfl, rfl, congrArg (fun z => some (Value.int z)) (by rw [nI_s1, ← hR.2.2.1, r0 5 (by decide)]), trivial⟩
  refine l_uni35 hm (fun T k1 k2 => l_uni335 hv hv2 hp hq hpq hroom hWP hWQ hdis hR k1 k2 (bnd_keep k1 (hbd R hR))) (p + 1) R (Nat.le_refl _) ⟨rfl, rfl, fun _ _ _ => rfl⟩ (fun i j l hi _ _ h => absurd h (by omega))
theorem l_uni337 {M R T : Mem} {P Q : Int32} {v p q : Nat} (hv : al v = 5) (hv2 : 10 < v) (hp : p ≤ 48) (hq : q ≤ 48) (hpq : p + q ≤ 60) (hroom : (p + 1) * (q + 1) ≤ 925) (hWP : ∀ a, a < 5 → ¬ hb P a = 0 → M (61 + a) 1 = nI p) (hWQ : ∀ a, a < 5 → ¬ hb Q a = 0 → M (61 + a) 1 = nI q) (hdis : ∀ a, a < 5 → ¬ hb P a = 0 → ¬ ¬ hb Q a = 0) (hR : uR M R 61 P Q v p q) (hk : keepT R T) (ht : tb T p q (fun _ _ => True)) (hbT : bnd T p q) : G mX1_unite 97 [some (.ref 4), some (.ref 37), some (.int P), some (.int Q), some (.ref v), none, none] [] T (uniP M 61 P Q v p q) := by
  have hmT : mrg T p q := ⟨(congrFun (hk.2.2 5 (by decide) (by omega)) 3).trans hR.2.2.1, (congrFun (hk.2.2 8 (by decide) (by omega)) 3).trans hR.2.2.2.1, hp, hq, hroom⟩
  refine blk 1 [(.aload_n 0, 0, 0, 0)] [] (by decide +kernel) rfl (pc' := 98) (ls' := [some (.ref 4), some (.ref 37), some (.int P), some (.int Q), some (.ref v), none, none]) (st' := [.ref 4]) (M' := T) rfl ⟨trivial, trivial⟩ ?_
  refine g_callV (s_walk T (p := p) (q := q) hmT hpq (tab_ch hbT (by omega) ht)) ok_X1_unite_X1_walk (by decide +kernel) rfl (c := 1) rfl (by decide) rfl (Nat.le_of_ble_eq_true rfl) (fun r W h => ?_) rfl
  obtain ⟨hr, n, n1, n2, n3, n4, w5, w15, w6, wz⟩ := h
  rw [hr]
  have eS : ∀ g, ncnt (W 15) g n = ncnt (stF T p q) g n := fun g => ncnt_congr (fun k hk => w15 k hk)
  have eW : ∀ z, (z < 4 ∨ 15 < z) → W z = M z := fun z hz => by rw [wz z (by omega) (by omega), hk.2.2 z (by omega) (by omega)]; exact hR.2.2.2.2.2.2.2.2.2 z (by omega)
  show G _ 101 [some (.ref 4), some (.ref 37), some (.int P), some (.int Q), some (.ref v), none, none] [] W _
  refine blk 1 [(.aload_n 1, 0, 0, 0), (.iload_n 2, 0, 0, 0), (.aload_n 0, 0, 0, 0), (.getfield 26, 1, 4, 0), (.aload_n 0, 0, 0, 0), (.getfield 60, 1, 5, 0), (.iconst 2, 0, 0, (nI 2))] [] (by decide +kernel) rfl (pc' := 112) (ls' := [some (.ref 4), some (.ref 37), some (.int P), some (.int Q), some (.ref v), none, none]) (st' := [.int (nI 2), .int (W 4 5), .ref 15, .int P, .ref 37]) (M' := W) rfl ⟨trivial, trivial, trivial, rfl, trivial, rfl, trivial, trivial⟩ ?_
  rw [w5]
  refine g_callV (s_sspread37 W (n := n) (S := P) (g := nI 2) (by omega) (fun a h1 h2 => by rw [eS, ← wst_P, n2, eW _ (by omega)]; exact hWP a h1 h2)) ok_X1_unite_X3_spread (by decide +kernel) rfl (c := 3) rfl (by decide) rfl (Nat.le_of_ble_eq_true rfl) (fun r X h => ?_) rfl
  obtain ⟨hr, x1, x2⟩ := h
  rw [hr]
  have x4 : X 4 = W 4 := x2 4 (fun a _ _ => by omega)
  have x15 : X 15 = W 15 := x2 15 (fun a _ _ => by omega)
  show G _ 115 [some (.ref 4), some (.ref 37), some (.int P), some (.int Q), some (.ref v), none, none] [] X _
  refine blk 1 [(.aload_n 1, 0, 0, 0), (.iload_n 3, 0, 0, 0), (.aload_n 0, 0, 0, 0), (.getfield 26, 1, 4, 0), (.aload_n 0, 0, 0, 0), (.getfield 60, 1, 5, 0), (.iconst 1, 0, 0, (nI 1))] [] (by decide +kernel) rfl (pc' := 126) (ls' := [some (.ref 4), some (.ref 37), some (.int P), some (.int Q), some (.ref v), none, none]) (st' := [.int (nI 1), .int (X 4 5), .ref 15, .int Q, .ref 37]) (M' := X) rfl ⟨trivial, trivial, trivial, rfl, trivial, rfl, trivial, trivial⟩ ?_
  rw [show X 4 5 = nI n by rw [x4]; exact w5]
  refine g_callV (s_sspread37 X (n := n) (S := Q) (g := nI 1) (by omega) (fun a h1 h2 => by rw [x15, eS, ← wst_Q, n3, x2 _ (fun c _ h4 => ⟨fun e => by rw [show a = c by omega] at h2; exact hdis c (by omega) h4 h2, by omega⟩), eW _ (by omega)]; exact hWQ a h1 h2)) ok_X1_unite_X3_spread (by decide +kernel) rfl (c := 3) rfl (by decide) rfl (Nat.le_of_ble_eq_true rfl) (fun r F h => ?_) rfl
  obtain ⟨hr, y1, y2⟩ := h
  rw [hr]
  show G _ 129 [some (.ref 4), some (.ref 37), some (.int P), some (.int Q), some (.ref v), none, none] [] F _
  refine blk 1 [(.aload_n 0, 0, 0, 0), (.getfield 23, 1, 3, 0), (.iconst 0, 0, 0, (nI 0)), (.aaload, 0, 0, 0), (.iconst 0, 0, 0, (nI 0)), (.iaload, 0, 0, 0)] [0, 0] (by decide +kernel) rfl (pc' := 137) (ls' := [some (.ref 4), some (.ref 37), some (.int P), some (.int Q), some (.ref v), none, none]) (st' := [.int (F 12 0)]) (M' := F) rfl ⟨trivial, rfl, trivial, ⟨rfl, (by decide)⟩, trivial, ⟨rfl, (by decide)⟩, trivial⟩ ?_
  refine g_ireturn (by decide +kernel) rfl rfl ⟨R, T, n, hR, hk, ht, hbT, ⟨n1, n2, n3, n4⟩, ?_, fun a h1 h2 => ?_, fun a h1 h2 => ?_, fun z h1 h2 => ?_⟩
  · rw [y2 12 (fun a _ _ => by omega), x2 12 (fun a _ _ => by omega), wz 12 (by decide) (by decide)]
  · have d := x1 a h1 h2
    rw [y2 (61 + a) (fun c _ h4 => ⟨fun e => by rw [show a = c by omega] at h2; exact hdis c (by omega) h2 h4, by omega⟩), y2 (61 + a + 5) (fun c _ h4 => ⟨by omega, fun e => by rw [show a = c by omega] at h2; exact hdis c (by omega) h2 h4⟩)]
    refine ⟨d.1, fun j hj => ?_⟩
    rw [d.2 j hj, w15 j hj, eW (61 + a + 5) (by omega), ncnt_congr (g := stF T p q) (fun k hk => w15 k (by omega))]; rfl
  · have d := y1 a h1 h2
    refine ⟨d.1, fun j hj => ?_⟩
    rw [d.2 j hj, x15, w15 j hj, x2 (61 + a + 5) (fun c _ h4 => ⟨by omega, fun e => by rw [show a = c by omega] at h2; exact hdis c (by omega) h4 h2⟩), eW (61 + a + 5) (by omega), ncnt_congr (g := stF T p q) (fun k hk => w15 k (by omega))]; rfl
  · rw [y2 z (fun c h3 h4 => h2 c h3 (Or.inr h4)), x2 z (fun c h3 h4 => h2 c h3 (Or.inl h4)), eW z h1]
theorem s_unite37 (M : Mem) {P Q : Int32} {v p q : Nat} (hv : al v = 5) (hv2 : 10 < v) (hp : p ≤ 48) (hq : q ≤ 48) (hpq : p + q ≤ 60) (hroom : (p + 1) * (q + 1) ≤ 925) (hWP : ∀ a, a < 5 → ¬ hb P a = 0 → M (61 + a) 1 = nI p) (hWQ : ∀ a, a < 5 → ¬ hb Q a = 0 → M (61 + a) 1 = nI q) (hdis : ∀ a, a < 5 → ¬ hb P a = 0 → ¬ ¬ hb Q a = 0) (hcP : ∀ a k, a < 5 → ¬ hb P a = 0 → k < p → okc (M (61 + a + 5) k)) (hcQ : ∀ a k, a < 5 → ¬ hb Q a = 0 → k < q → okc (M (61 + a + 5) k)) (hnP : ∃ a, a < 5 ∧ ¬ hb P a = 0) (hnQ : ∃ a, a < 5 ∧ ¬ hb Q a = 0) (hbd : ∀ R, uR M R 61 P Q v p q → bnd R p q) : Spec mX1_unite [.ref 4, .ref 37, .int P, .int Q, .ref v] M (uniP M 61 P Q v p q) := by
  refine Spec.of (by decide) (by simp [Value.category]) (Nat.le_of_ble_eq_true rfl) ?_
  refine blk 1 [(.aload_n 0, 0, 0, 0), (.getfield 12, 1, 1, 0), (.aload_n 1, 0, 0, 0), (.iload_n 2, 0, 0, 0), (.aload 4, 0, 0, 0)] [] (by decide +kernel) rfl (pc' := 8) (ls' := [some (.ref 4), some (.ref 37), some (.int P), some (.int Q), some (.ref v), none, none]) (st' := [.ref v, .int P, .ref 37, .ref 5]) (M' := M) rfl ⟨trivial, rfl, trivial, trivial, trivial, trivial⟩ ?_
  refine g_callV (s_read5_37 M P (v := v) (w := p) hv hv2 hp hWP (fun a k h1 h2 h3 => hcP a k h1 h2 h3) hnP) ok_X1_unite_X4_read (by decide +kernel) rfl (c := 4) rfl (by decide) rfl (Nat.le_of_ble_eq_true rfl) (fun r A h => ?_) rfl
  obtain ⟨hr, a1, a2, a3, a4, a5⟩ := h
  rw [hr]
  show G _ 11 [some (.ref 4), some (.ref 37), some (.int P), some (.int Q), some (.ref v), none, none] [] A _
  refine blk 1 [(.aload_n 0, 0, 0, 0), (.getfield 18, 1, 2, 0), (.aload_n 1, 0, 0, 0), (.iload_n 3, 0, 0, 0), (.aload 4, 0, 0, 0)] [] (by decide +kernel) rfl (pc' := 19) (ls' := [some (.ref 4), some (.ref 37), some (.int P), some (.int Q), some (.ref v), none, none]) (st' := [.ref v, .int Q, .ref 37, .ref 8]) (M' := A) rfl ⟨trivial, rfl, trivial, trivial, trivial, trivial⟩ ?_
  refine g_callV (s_read8_37 A Q (v := v) (w := q) hv hv2 hq (fun a h1 h2 => by rw [a5 _ (by omega) (by omega)]; exact hWQ a h1 h2) (fun a k h1 h2 h3 => by rw [a5 _ (by omega) (by omega)]; exact hcQ a k h1 h2 h3) hnQ) ok_X1_unite_X4_read (by decide +kernel) rfl (c := 4) rfl (by decide) rfl (Nat.le_of_ble_eq_true rfl) (fun r C h => ?_) rfl
  obtain ⟨hr, b1, b2, b3, b4, b5⟩ := h
  rw [hr]
  show G _ 22 [some (.ref 4), some (.ref 37), some (.int P), some (.int Q), some (.ref v), none, none] [] C _
  refine blk 1 [(.aload_n 0, 0, 0, 0), (.aload_n 0, 0, 0, 0), (.getfield 30, 1, 0, 0), (.getfield 38, 0, 1, 0), (.aload_n 0, 0, 0, 0), (.getfield 12, 1, 1, 0), (.getfield 44, 4, 2, 0), (.imul, 0, 0, 0), (.aload_n 0, 0, 0, 0), (.getfield 18, 1, 2, 0), (.getfield 44, 4, 2, 0), (.imul, 0, 0, 0), (.putfield 47, 1, 6, 0), (.aload_n 0, 0, 0, 0), (.getfield 12, 1, 1, 0), (.getfield 50, 4, 3, 0), (.istore 5, 0, 0, 0)] [] (by decide +kernel) rfl (pc' := 58) (ls' := [some (.ref 4), some (.ref 37), some (.int P), some (.int Q), some (.ref v), some (.int (C 5 3)), none]) (st' := []) (M' := stm C 4 6 (((C 2 1) * (C 5 2)) * (C 8 2))) rfl ⟨trivial, trivial, rfl, rfl, trivial, rfl, rfl, trivial, trivial, rfl, rfl, trivial, rfl, trivial, rfl, rfl, trivial, trivial⟩ ?_
  generalize hRe : stm C 4 6 (((C 2 1) * (C 5 2)) * (C 8 2)) = R
  have r0 : ∀ z, z ≠ 4 → R z = C z := fun z hz => by rw [← hRe, stm_ne hz]
  have rz : ∀ z, (z < 4 ∨ 10 < z) → R z = M z := fun z hz => by rw [r0 z (by omega), b5 z (by omega) (by omega), a5 z (by omega) (by omega)]
  have hR : uR M R 61 P Q v p q := by
    refine ⟨?_, ?_, ?_, ?_, fun k x hk hx => ?_, fun k hk => ?_, fun k x hk hx => ?_, fun k hk => ?_, ?_, rz⟩
    · rw [r0 5 (by decide), b5 5 (by omega) (by decide)]; exact a1
    · rw [r0 8 (by decide), b1]; exact psum_congr (fun j hj => by simp only [whF]; rw [a5 v (by omega) (by omega)])
    · rw [r0 5 (by decide), b5 5 (by omega) (by decide)]; exact a2
    · rw [r0 8 (by decide)]; exact b2
    · rw [r0 6 (by decide), b5 6 (by omega) (by decide)]; exact a3 k x hk hx
    · rw [r0 7 (by decide), b5 7 (by omega) (by decide)]; exact a4 k hk
    · rw [r0 9 (by decide)]; rw [show C 9 (k * 4 + x) = _ from b3 k x hk hx]; exact psum_congr (fun j hj => by simp only [letF]; rw [a5 v (by omega) (by omega), a5 (61 + j + 5) (by omega) (by omega)])
    · rw [r0 10 (by decide)]; rw [show C 10 k = _ from b4 k hk]; exact psum_congr (fun j hj => by simp only [preF]; rw [a5 v (by omega) (by omega), a5 (61 + j + 5) (by omega) (by omega)])
    · rw [r0 5 (by decide), r0 8 (by decide), ← hRe, stm_self, b5 2 (by omega) (by decide), a5 2 (by omega) (by decide)]
  have hm : mrg R p q := ⟨hR.2.2.1, hR.2.2.2.1, hp, hq, hroom⟩
  refine G.sub (ls' := [some (.ref 4), some (.ref 37), some (.int P), some (.int Q), some (.ref v), some (.int (nI (p + 1) - nI 1)), none]) ?_ ⟨rfl, rfl, rfl, rfl, rfl, congrArg (fun z => some (Value.int z)) (by rw [nI_s1, ← hR.2.2.1, r0 5 (by decide)]), trivial⟩
  refine l_uni37 hm (fun T k1 k2 => l_uni337 hv hv2 hp hq hpq hroom hWP hWQ hdis hR k1 k2 (bnd_keep k1 (hbd R hR))) (p + 1) R (Nat.le_refl _) ⟨rfl, rfl, fun _ _ _ => rfl⟩ (fun i j l hi _ _ h => absurd h (by omega))
end
section
/-! the reference: leaves -/
theorem hbit_01 (S : Int32) (w : Nat) : hbit S w = 0 ∨ hbit S w = 1 := by
  unfold hbit
  obtain ⟨j, hj, e⟩ := pk_andE (S >>> (nI w &&& 31)) (m := nI 1) 1 (by decide +kernel)
  rw [e]
  rcases (show j = 0 ∨ j = 1 by omega) with rfl | rfl
  · exact Or.inl nI_0
  · exact Or.inr n1_lit
theorem s_isIn (M : Mem) (S : Int32) (w : Nat) : Spec mX7_isIn [.ref 72, .int S, .int (nI w)] M (Ret (hb S w) M) := by
  refine Spec.of (by decide) (by simp [Value.category]) (Nat.le_of_ble_eq_true rfl) ?_
  refine blk 7 [(.iload_n 1, 0, 0, 0), (.iload_n 2, 0, 0, 0), (.ishr, 0, 0, 0), (.iconst 1, 0, 0, (nI 1)), (.iand, 0, 0, 0), (.iconst 1, 0, 0, (nI 1))] [] (by decide +kernel) rfl (pc' := 6) (ls' := [some (.ref 72), some (.int S), some (.int (nI w))]) (st' := [.int (nI 1), .int ((S >>> ((nI w) &&& 31)) &&& (nI 1))]) (M' := M) rfl ⟨trivial, trivial, trivial, trivial, trivial, trivial, trivial⟩ ?_
  refine g_icmp_ne (off := 7) (tgt := 13) (by decide +kernel) (by decide) (fun c1 => ?_) (fun c1 => ?_)
  · refine blk 7 [(.iconst 0, 0, 0, (nI 0))] [] (by decide +kernel) rfl (pc' := 14) (ls' := [some (.ref 72), some (.int S), some (.int (nI w))]) (st' := [.int (nI 0)]) (M' := M) rfl ⟨trivial, trivial⟩ ?_
    refine g_ireturn (by decide +kernel) rfl (by decide) ⟨?_, rfl⟩
    unfold hb
    rw [if_pos (by rcases hbit_01 S w with z | z; exact z; exact absurd (show _ = nI 1 by rw [n1_lit]; exact z) c1)]; rfl
  · refine blk 7 [(.iconst 1, 0, 0, (nI 1)), (.goto (4), 14, 0, 0)] [] (by decide +kernel) rfl (pc' := 14) (ls' := [some (.ref 72), some (.int S), some (.int (nI w))]) (st' := [.int (nI 1)]) (M' := M) rfl ⟨trivial, trivial, trivial⟩ ?_
    refine g_ireturn (by decide +kernel) rfl (by decide) ⟨?_, rfl⟩
    unfold hb
    rw [if_neg (fun z => by rw [show hbit S w = nI 1 from c1, n1_lit] at z; exact absurd z (by decide))]; rfl
theorem s_entry (M : Mem) (i j l : Int32) : Spec mX7_entry [.ref 72, .int i, .int j, .int l] M (Ret (nI 3 * (nI 61 * i + j) + l) M) := by
  refine Spec.of (by decide) (by simp [Value.category]) (Nat.le_of_ble_eq_true rfl) ?_
  refine blk 7 [(.iconst 3, 0, 0, (nI 3)), (.bipush 61, 0, 0, (nI 61)), (.iload_n 1, 0, 0, 0), (.imul, 0, 0, 0), (.iload_n 2, 0, 0, 0), (.iadd, 0, 0, 0), (.imul, 0, 0, 0), (.iload_n 3, 0, 0, 0), (.iadd, 0, 0, 0)] [] (by decide +kernel) rfl (pc' := 10) (ls' := [some (.ref 72), some (.int i), some (.int j), some (.int l)]) (st' := [.int (((nI 3) * (((nI 61) * i) + j)) + l)]) (M' := M) rfl ⟨trivial, trivial, trivial, trivial, trivial, trivial, trivial, trivial, trivial, trivial⟩ ?_
  exact g_ireturn (by decide +kernel) rfl rfl ⟨rfl, rfl⟩
theorem l_wos {M : Mem} {S : Int32} : ∀ d i, d = 5 - i → i ≤ 5 → G mX7_weightOfSet 4 [some (.ref 72), some (.int S), some (.int (psum (whF M S 39) i)), some (.int (nI i))] [] M (Ret (psum (whF M S 39) 5) M) := by
  intro d
  induction d using Nat.strongRecOn with
  | ind d ih =>
    intro i hd hj
    refine blk 7 [(.iload_n 3, 0, 0, 0), (.iconst 5, 0, 0, (nI 5))] [] (by decide +kernel) rfl (pc' := 6) (ls' := [some (.ref 72), some (.int S), some (.int (psum (whF M S 39) i)), some (.int (nI i))]) (st' := [.int (nI 5), .int (nI i)]) (M' := M) rfl ⟨trivial, trivial, trivial⟩ ?_
    refine g_icmp_ge (off := 31) (tgt := 37) (by decide +kernel) (by decide) (fun c1 => ?_) (fun c1 => ?_)
    · have nc1 : 5 ≤ i := (nI_leI (by omega) (by omega)).mp (by simpa only [nI_add, pk_mul, nI_s1, n0_lit] using c1)
      refine blk 7 [(.iload_n 2, 0, 0, 0)] [] (by decide +kernel) rfl (pc' := 38) (ls' := [some (.ref 72), some (.int S), some (.int (psum (whF M S 39) i)), some (.int (nI i))]) (st' := [.int (psum (whF M S 39) i)]) (M' := M) rfl ⟨trivial, trivial⟩ ?_
      have e : i = 5 := by omega
      subst e
      exact g_ireturn (by decide +kernel) rfl rfl ⟨rfl, rfl⟩
    · have nc1 : i < 5 := by
        have z : ¬ nI 5 ≤ nI i := by simpa only [nI_add, pk_mul, nI_s1, n0_lit] using c1
        rw [nI_leI (by omega) (by omega)] at z
        omega
      refine blk 7 [(.iload_n 2, 0, 0, 0), (.aload_n 0, 0, 0, 0), (.iload_n 1, 0, 0, 0), (.iload_n 3, 0, 0, 0)] [] (by decide +kernel) rfl (pc' := 13) (ls' := [some (.ref 72), some (.int S), some (.int (psum (whF M S 39) i)), some (.int (nI i))]) (st' := [.int (nI i), .int S, .ref 72, .int (psum (whF M S 39) i)]) (M' := M) rfl ⟨trivial, trivial, trivial, trivial, trivial⟩ ?_
      refine g_callV (s_isIn M S i) ok_X7_weightOfSet_X7_isIn (by decide +kernel) rfl (c := 7) rfl (by decide) rfl (Nat.le_of_ble_eq_true rfl) (fun r M' h => ?_) rfl
      obtain ⟨hr, hM⟩ := h
      rw [hr, hM]
      show G _ 16 [some (.ref 72), some (.int S), some (.int (psum (whF M S 39) i)), some (.int (nI i))] [.int (hb S i), .int (psum (whF M S 39) i)] M _
      refine g_if_eq (off := 12) (tgt := 28) (by decide +kernel) (by decide) (fun c2 => ?_) (fun c2 => ?_)
      · refine blk 7 [(.iconst 0, 0, 0, (nI 0)), (.iadd, 0, 0, 0), (.istore_n 2, 0, 0, 0), (.iinc 3 1, 0, 0, (nI 1)), (.goto (-30), 4, 0, 0)] [] (by decide +kernel) rfl (pc' := 4) (ls' := [some (.ref 72), some (.int S), some (.int ((psum (whF M S 39) i) + (nI 0))), some (.int (nI i + nI 1))]) (st' := []) (M' := M) rfl ⟨trivial, trivial, trivial, trivial, trivial, trivial⟩ ?_
        have e : psum (whF M S 39) (i + 1) = (psum (whF M S 39) i) + (nI 0) := by
          rw [psum]; congr 1; simp only [whF]; rw [if_pos c2]; exact nI_0.symm
        refine G.sub (ls' := [some (.ref 72), some (.int S), some (.int (psum (whF M S 39) (i + 1))), some (.int (nI (i + 1)))]) ?_ ⟨rfl, rfl, congrArg (fun z => some (Value.int z)) e.symm, congrArg (fun z => some (Value.int z)) (by simp only [nI_add, nI_s1]), trivial⟩
        exact ih (d - 1) (by omega) (i + 1) (by omega) (by omega)
      · refine blk 7 [(.aload_n 0, 0, 0, 0), (.getfield 86, 7, 37, 0), (.iload_n 3, 0, 0, 0), (.iaload, 0, 0, 0), (.goto (4), 29, 0, 0), (.iadd, 0, 0, 0), (.istore_n 2, 0, 0, 0), (.iinc 3 1, 0, 0, (nI 1)), (.goto (-30), 4, 0, 0)] [i] (by decide +kernel) rfl (pc' := 4) (ls' := [some (.ref 72), some (.int S), some (.int ((psum (whF M S 39) i) + (M 39 i))), some (.int (nI i + nI 1))]) (st' := []) (M' := M) rfl ⟨trivial, rfl, trivial, ⟨rfl, (by show _ < 5; omega)⟩, trivial, trivial, trivial, trivial, trivial, trivial⟩ ?_
        have e : psum (whF M S 39) (i + 1) = (psum (whF M S 39) i) + (M 39 i) := by
          rw [psum]; congr 1; simp only [whF]; rw [if_neg c2]
        refine G.sub (ls' := [some (.ref 72), some (.int S), some (.int (psum (whF M S 39) (i + 1))), some (.int (nI (i + 1)))]) ?_ ⟨rfl, rfl, congrArg (fun z => some (Value.int z)) e.symm, congrArg (fun z => some (Value.int z)) (by simp only [nI_add, nI_s1]), trivial⟩
        exact ih (d - 1) (by omega) (i + 1) (by omega) (by omega)
theorem s_wos (M : Mem) (S : Int32) : Spec mX7_weightOfSet [.ref 72, .int S] M (Ret (psum (whF M S 39) 5) M) := by
  refine Spec.of (by decide) (by simp [Value.category]) (Nat.le_of_ble_eq_true rfl) ?_
  refine blk 7 [(.iconst 0, 0, 0, (nI 0)), (.istore_n 2, 0, 0, 0), (.iconst 0, 0, 0, (nI 0)), (.istore_n 3, 0, 0, 0)] [] (by decide +kernel) rfl (pc' := 4) (ls' := [some (.ref 72), some (.int S), some (.int (nI 0)), some (.int (nI 0))]) (st' := []) (M' := M) rfl ⟨trivial, trivial, trivial, trivial, trivial⟩ ?_
  exact l_wos _ 0 rfl (by omega)
/-- may a step be taken? -/
def canB (p q i j s : Nat) : Bool := if s = 0 then decide (i < p ∧ j < q) else if s = 1 then decide (i < p) else decide (j < q)
theorem s_can (M : Mem) {p q i j s : Nat} (hp : M 72 27 = nI p) (hq : M 72 28 = nI q) (hpl : p ≤ 60) (hql : q ≤ 60) (hi : i ≤ 60) (hj : j ≤ 60) (hs : s ≤ 2) : Spec mX7_canStep [.ref 72, .int (nI i), .int (nI j), .int (nI s)] M (Ret (bI (canB p q i j s)) M) := by
  refine Spec.of (by decide) (by simp [Value.category]) (Nat.le_of_ble_eq_true rfl) ?_
  refine blk 7 [(.iload_n 3, 0, 0, 0)] [] (by decide +kernel) rfl (pc' := 1) (ls' := [some (.ref 72), some (.int (nI i)), some (.int (nI j)), some (.int (nI s))]) (st' := [.int (nI s)]) (M' := M) rfl ⟨trivial, trivial⟩ ?_
  refine g_if_ne (off := 27) (tgt := 28) (by decide +kernel) (by decide) (fun c1 => ?_) (fun c1 => ?_)
  · have nc1 : s ≠ 0 := by
      have z : ¬ nI s = nI 0 := by simpa only [hp, hq, nI_add, pk_mul, nI_s1, n0_lit] using c1
      rw [nI_eq (by omega) (by omega)] at z
      omega
    refine blk 7 [(.iload_n 3, 0, 0, 0), (.iconst 1, 0, 0, (nI 1))] [] (by decide +kernel) rfl (pc' := 30) (ls' := [some (.ref 72), some (.int (nI i)), some (.int (nI j)), some (.int (nI s))]) (st' := [.int (nI 1), .int (nI s)]) (M' := M) rfl ⟨trivial, trivial, trivial⟩ ?_
    refine g_icmp_ne (off := 19) (tgt := 49) (by decide +kernel) (by decide) (fun c2 => ?_) (fun c2 => ?_)
    · have nc2 : s ≠ 1 := by
        have z : ¬ nI s = nI 1 := by simpa only [hp, hq, nI_add, pk_mul, nI_s1, n0_lit] using c2
        rw [nI_eq (by omega) (by omega)] at z
        omega
      refine blk 7 [(.iload_n 2, 0, 0, 0), (.aload_n 0, 0, 0, 0), (.getfield 127, 7, 28, 0)] [] (by decide +kernel) rfl (pc' := 54) (ls' := [some (.ref 72), some (.int (nI i)), some (.int (nI j)), some (.int (nI s))]) (st' := [.int (M 72 28), .int (nI j)]) (M' := M) rfl ⟨trivial, trivial, rfl, trivial⟩ ?_
      refine g_icmp_ge (off := 7) (tgt := 61) (by decide +kernel) (by decide) (fun c3 => ?_) (fun c3 => ?_)
      · have nc3 : q ≤ j := (nI_leI (by omega) (by omega)).mp (by simpa only [hp, hq, nI_add, pk_mul, nI_s1, n0_lit] using c3)
        refine blk 7 [(.iconst 0, 0, 0, (nI 0))] [] (by decide +kernel) rfl (pc' := 62) (ls' := [some (.ref 72), some (.int (nI i)), some (.int (nI j)), some (.int (nI s))]) (st' := [.int (nI 0)]) (M' := M) rfl ⟨trivial, trivial⟩ ?_
        refine g_ireturn (by decide +kernel) rfl (by decide) ⟨?_, rfl⟩
        rw [show canB p q i j s = false by unfold canB; grind]; rfl
      · have nc3 : j < q := by
          have z : ¬ nI q ≤ nI j := by simpa only [hp, hq, nI_add, pk_mul, nI_s1, n0_lit] using c3
          rw [nI_leI (by omega) (by omega)] at z
          omega
        refine blk 7 [(.iconst 1, 0, 0, (nI 1)), (.goto (4), 62, 0, 0)] [] (by decide +kernel) rfl (pc' := 62) (ls' := [some (.ref 72), some (.int (nI i)), some (.int (nI j)), some (.int (nI s))]) (st' := [.int (nI 1)]) (M' := M) rfl ⟨trivial, trivial, trivial⟩ ?_
        refine g_ireturn (by decide +kernel) rfl (by decide) ⟨?_, rfl⟩
        rw [show canB p q i j s = true by unfold canB; grind]; rfl
    · have nc2 : s = 1 := (nI_eq (by omega) (by omega)).mp (by simpa only [hp, hq, nI_add, pk_mul, nI_s1, n0_lit] using c2)
      refine blk 7 [(.iload_n 1, 0, 0, 0), (.aload_n 0, 0, 0, 0), (.getfield 121, 7, 27, 0)] [] (by decide +kernel) rfl (pc' := 38) (ls' := [some (.ref 72), some (.int (nI i)), some (.int (nI j)), some (.int (nI s))]) (st' := [.int (M 72 27), .int (nI i)]) (M' := M) rfl ⟨trivial, trivial, rfl, trivial⟩ ?_
      refine g_icmp_ge (off := 7) (tgt := 45) (by decide +kernel) (by decide) (fun c4 => ?_) (fun c4 => ?_)
      · have nc4 : p ≤ i := (nI_leI (by omega) (by omega)).mp (by simpa only [hp, hq, nI_add, pk_mul, nI_s1, n0_lit] using c4)
        refine blk 7 [(.iconst 0, 0, 0, (nI 0)), (.goto (16), 62, 0, 0)] [] (by decide +kernel) rfl (pc' := 62) (ls' := [some (.ref 72), some (.int (nI i)), some (.int (nI j)), some (.int (nI s))]) (st' := [.int (nI 0)]) (M' := M) rfl ⟨trivial, trivial, trivial⟩ ?_
        refine g_ireturn (by decide +kernel) rfl (by decide) ⟨?_, rfl⟩
        rw [show canB p q i j s = false by unfold canB; grind]; rfl
      · have nc4 : i < p := by
          have z : ¬ nI p ≤ nI i := by simpa only [hp, hq, nI_add, pk_mul, nI_s1, n0_lit] using c4
          rw [nI_leI (by omega) (by omega)] at z
          omega
        refine blk 7 [(.iconst 1, 0, 0, (nI 1)), (.goto (20), 62, 0, 0)] [] (by decide +kernel) rfl (pc' := 62) (ls' := [some (.ref 72), some (.int (nI i)), some (.int (nI j)), some (.int (nI s))]) (st' := [.int (nI 1)]) (M' := M) rfl ⟨trivial, trivial, trivial⟩ ?_
        refine g_ireturn (by decide +kernel) rfl (by decide) ⟨?_, rfl⟩
        rw [show canB p q i j s = true by unfold canB; grind]; rfl
  · have nc1 : s = 0 := (nI_eq (by omega) (by omega)).mp (by simpa only [hp, hq, nI_add, pk_mul, nI_s1, n0_lit] using c1)
    refine blk 7 [(.iload_n 1, 0, 0, 0), (.aload_n 0, 0, 0, 0), (.getfield 121, 7, 27, 0)] [] (by decide +kernel) rfl (pc' := 9) (ls' := [some (.ref 72), some (.int (nI i)), some (.int (nI j)), some (.int (nI s))]) (st' := [.int (M 72 27), .int (nI i)]) (M' := M) rfl ⟨trivial, trivial, rfl, trivial⟩ ?_
    refine g_icmp_ge (off := 15) (tgt := 24) (by decide +kernel) (by decide) (fun c5 => ?_) (fun c5 => ?_)
    · have nc5 : p ≤ i := (nI_leI (by omega) (by omega)).mp (by simpa only [hp, hq, nI_add, pk_mul, nI_s1, n0_lit] using c5)
      refine blk 7 [(.iconst 0, 0, 0, (nI 0)), (.goto (37), 62, 0, 0)] [] (by decide +kernel) rfl (pc' := 62) (ls' := [some (.ref 72), some (.int (nI i)), some (.int (nI j)), some (.int (nI s))]) (st' := [.int (nI 0)]) (M' := M) rfl ⟨trivial, trivial, trivial⟩ ?_
      refine g_ireturn (by decide +kernel) rfl (by decide) ⟨?_, rfl⟩
      rw [show canB p q i j s = false by unfold canB; grind]; rfl
    · have nc5 : i < p := by
        have z : ¬ nI p ≤ nI i := by simpa only [hp, hq, nI_add, pk_mul, nI_s1, n0_lit] using c5
        rw [nI_leI (by omega) (by omega)] at z
        omega
      refine blk 7 [(.iload_n 2, 0, 0, 0), (.aload_n 0, 0, 0, 0), (.getfield 127, 7, 28, 0)] [] (by decide +kernel) rfl (pc' := 17) (ls' := [some (.ref 72), some (.int (nI i)), some (.int (nI j)), some (.int (nI s))]) (st' := [.int (M 72 28), .int (nI j)]) (M' := M) rfl ⟨trivial, trivial, rfl, trivial⟩ ?_
      refine g_icmp_ge (off := 7) (tgt := 24) (by decide +kernel) (by decide) (fun c6 => ?_) (fun c6 => ?_)
      · have nc6 : q ≤ j := (nI_leI (by omega) (by omega)).mp (by simpa only [hp, hq, nI_add, pk_mul, nI_s1, n0_lit] using c6)
        refine blk 7 [(.iconst 0, 0, 0, (nI 0)), (.goto (37), 62, 0, 0)] [] (by decide +kernel) rfl (pc' := 62) (ls' := [some (.ref 72), some (.int (nI i)), some (.int (nI j)), some (.int (nI s))]) (st' := [.int (nI 0)]) (M' := M) rfl ⟨trivial, trivial, trivial⟩ ?_
        refine g_ireturn (by decide +kernel) rfl (by decide) ⟨?_, rfl⟩
        rw [show canB p q i j s = false by unfold canB; grind]; rfl
      · have nc6 : j < q := by
          have z : ¬ nI q ≤ nI j := by simpa only [hp, hq, nI_add, pk_mul, nI_s1, n0_lit] using c6
          rw [nI_leI (by omega) (by omega)] at z
          omega
        refine blk 7 [(.iconst 1, 0, 0, (nI 1)), (.goto (41), 62, 0, 0)] [] (by decide +kernel) rfl (pc' := 62) (ls' := [some (.ref 72), some (.int (nI i)), some (.int (nI j)), some (.int (nI s))]) (st' := [.int (nI 1)]) (M' := M) rfl ⟨trivial, trivial, trivial⟩ ?_
        refine g_ireturn (by decide +kernel) rfl (by decide) ⟨?_, rfl⟩
        rw [show canB p q i j s = true by unfold canB; grind]; rfl
/-- what a step is worth with all behind it -/
def swF (M : Mem) (i j l s : Nat) (pA qA : Int32) : Int32 := if s = 0 then M 93 (60 * i + j) + M 40 (3 * (61 * (i + 1) + (j + 1)) + 0) else if s = 1 then M 40 (3 * (61 * (i + 1) + j) + 1) - (if s = l then nI 0 else M 72 6 * pA * qA) - M 72 7 * M 94 i * qA else M 40 (3 * (61 * i + (j + 1)) + 2) - (if s = l then nI 0 else M 72 6 * pA * qA) - M 72 7 * M 95 j * pA
theorem s_sw (M : Mem) {p q i j l s : Nat} (pA qA : Int32) (hpl : p ≤ 60) (hql : q ≤ 60) (hi : i ≤ p) (hj : j ≤ q) (hl : l ≤ 2) (hs : s ≤ 2) (hc : canB p q i j s = true) : Spec mX7_stepWorth [.ref 72, .int (nI i), .int (nI j), .int (nI l), .int (nI s), .int pA, .int qA] M (Ret (swF M i j l s pA qA) M) := by
  have hc2 : (s = 0 → i < p ∧ j < q) ∧ (s = 1 → i < p) ∧ (s = 2 → j < q) := by unfold canB at hc; grind
  refine Spec.of (by decide) (by simp [Value.category]) (Nat.le_of_ble_eq_true rfl) ?_
  refine blk 7 [(.iload 4, 0, 0, 0)] [] (by decide +kernel) rfl (pc' := 2) (ls' := [some (.ref 72), some (.int (nI i)), some (.int (nI j)), some (.int (nI l)), some (.int (nI s)), some (.int pA), some (.int qA), none]) (st' := [.int (nI s)]) (M' := M) rfl ⟨trivial, trivial⟩ ?_
  refine g_if_ne (off := 32) (tgt := 34) (by decide +kernel) (by decide) (fun c1 => ?_) (fun c1 => ?_)
  · have nc1 : s ≠ 0 := by
      have z : ¬ nI s = nI 0 := by simpa only [nI_add, pk_mul, nI_s1, n0_lit] using c1
      rw [nI_eq (by omega) (by omega)] at z
      omega
    refine blk 7 [(.iload 4, 0, 0, 0), (.iload_n 3, 0, 0, 0)] [] (by decide +kernel) rfl (pc' := 37) (ls' := [some (.ref 72), some (.int (nI i)), some (.int (nI j)), some (.int (nI l)), some (.int (nI s)), some (.int pA), some (.int qA), none]) (st' := [.int (nI l), .int (nI s)]) (M' := M) rfl ⟨trivial, trivial, trivial⟩ ?_
    refine g_icmp_ne (off := 7) (tgt := 44) (by decide +kernel) (by decide) (fun c2 => ?_) (fun c2 => ?_)
    · have nc2 : s ≠ l := by
        have z : ¬ nI s = nI l := by simpa only [nI_add, pk_mul, nI_s1, n0_lit] using c2
        rw [nI_eq (by omega) (by omega)] at z
        omega
      refine blk 7 [(.aload_n 0, 0, 0, 0), (.getfield 22, 7, 6, 0), (.iload 5, 0, 0, 0), (.imul, 0, 0, 0), (.iload 6, 0, 0, 0), (.imul, 0, 0, 0), (.istore 7, 0, 0, 0), (.iload 4, 0, 0, 0), (.iconst 1, 0, 0, (nI 1))] [] (by decide +kernel) rfl (pc' := 59) (ls' := [some (.ref 72), some (.int (nI i)), some (.int (nI j)), some (.int (nI l)), some (.int (nI s)), some (.int pA), some (.int qA), some (.int (((M 72 6) * pA) * qA))]) (st' := [.int (nI 1), .int (nI s)]) (M' := M) rfl ⟨trivial, rfl, trivial, trivial, trivial, trivial, trivial, trivial, trivial, trivial⟩ ?_
      refine g_icmp_ne (off := 36) (tgt := 95) (by decide +kernel) (by decide) (fun c3 => ?_) (fun c3 => ?_)
      · have nc3 : s ≠ 1 := by
          have z : ¬ nI s = nI 1 := by simpa only [nI_add, pk_mul, nI_s1, n0_lit] using c3
          rw [nI_eq (by omega) (by omega)] at z
          omega
        refine blk 7 [(.aload_n 0, 0, 0, 0), (.getfield 83, 7, 36, 0), (.aload_n 0, 0, 0, 0), (.iload_n 1, 0, 0, 0), (.iload_n 2, 0, 0, 0), (.iconst 1, 0, 0, (nI 1)), (.iadd, 0, 0, 0), (.iconst 2, 0, 0, (nI 2))] [] (by decide +kernel) rfl (pc' := 105) (ls' := [some (.ref 72), some (.int (nI i)), some (.int (nI j)), some (.int (nI l)), some (.int (nI s)), some (.int pA), some (.int qA), some (.int (((M 72 6) * pA) * qA))]) (st' := [.int (nI 2), .int ((nI j) + (nI 1)), .int (nI i), .ref 72, .ref 40]) (M' := M) rfl ⟨trivial, rfl, trivial, trivial, trivial, trivial, trivial, trivial, trivial⟩ ?_
        refine g_callV (s_entry M _ _ _) ok_X7_stepWorth_X7_entry (by decide +kernel) rfl (c := 7) rfl (by decide) rfl (Nat.le_of_ble_eq_true rfl) (fun r M' h => ?_) rfl
        obtain ⟨hr, hM⟩ := h
        rw [hr, hM]
        show G _ 108 [some (.ref 72), some (.int (nI i)), some (.int (nI j)), some (.int (nI l)), some (.int (nI s)), some (.int pA), some (.int qA), some (.int (((M 72 6) * pA) * qA))] [.int (nI 3 * (nI 61 * (nI i) + ((nI j) + (nI 1))) + (nI 2)), .ref 40] M _
        refine blk 7 [(.iaload, 0, 0, 0), (.iload 7, 0, 0, 0), (.isub, 0, 0, 0), (.aload_n 0, 0, 0, 0), (.getfield 26, 7, 7, 0), (.aload_n 0, 0, 0, 0), (.getfield 80, 7, 35, 0), (.iload_n 2, 0, 0, 0), (.iaload, 0, 0, 0), (.imul, 0, 0, 0), (.iload 5, 0, 0, 0), (.imul, 0, 0, 0), (.isub, 0, 0, 0)] [3 * (61 * i + (j + 1)) + 2, j] (by decide +kernel) rfl (pc' := 127) (ls' := [some (.ref 72), some (.int (nI i)), some (.int (nI j)), some (.int (nI l)), some (.int (nI s)), some (.int pA), some (.int qA), some (.int (((M 72 6) * pA) * qA))]) (st' := [.int (((M 40 (3 * (61 * i + (j + 1)) + 2)) - (((M 72 6) * pA) * qA)) - (((M 72 7) * (M 95 j)) * pA))]) (M' := M) rfl ⟨⟨(by simp only [nI_add, pk_mul, nI_s1, Nat.reduceAdd, Nat.reduceMul]), (by show _ < 11163; omega)⟩, trivial, trivial, trivial, rfl, trivial, rfl, trivial, ⟨rfl, (by show _ < 60; omega)⟩, trivial, trivial, trivial, trivial, trivial⟩ ?_
        refine g_ireturn (by decide +kernel) rfl rfl ⟨?_, rfl⟩
        unfold swF; grind
      · have nc3 : s = 1 := (nI_eq (by omega) (by omega)).mp (by simpa only [nI_add, pk_mul, nI_s1, n0_lit] using c3)
        refine blk 7 [(.aload_n 0, 0, 0, 0), (.getfield 83, 7, 36, 0), (.aload_n 0, 0, 0, 0), (.iload_n 1, 0, 0, 0), (.iconst 1, 0, 0, (nI 1)), (.iadd, 0, 0, 0), (.iload_n 2, 0, 0, 0), (.iconst 1, 0, 0, (nI 1))] [] (by decide +kernel) rfl (pc' := 72) (ls' := [some (.ref 72), some (.int (nI i)), some (.int (nI j)), some (.int (nI l)), some (.int (nI s)), some (.int pA), some (.int qA), some (.int (((M 72 6) * pA) * qA))]) (st' := [.int (nI 1), .int (nI j), .int ((nI i) + (nI 1)), .ref 72, .ref 40]) (M' := M) rfl ⟨trivial, rfl, trivial, trivial, trivial, trivial, trivial, trivial, trivial⟩ ?_
        refine g_callV (s_entry M _ _ _) ok_X7_stepWorth_X7_entry (by decide +kernel) rfl (c := 7) rfl (by decide) rfl (Nat.le_of_ble_eq_true rfl) (fun r M' h => ?_) rfl
        obtain ⟨hr, hM⟩ := h
        rw [hr, hM]
        show G _ 75 [some (.ref 72), some (.int (nI i)), some (.int (nI j)), some (.int (nI l)), some (.int (nI s)), some (.int pA), some (.int qA), some (.int (((M 72 6) * pA) * qA))] [.int (nI 3 * (nI 61 * ((nI i) + (nI 1)) + (nI j)) + (nI 1)), .ref 40] M _
        refine blk 7 [(.iaload, 0, 0, 0), (.iload 7, 0, 0, 0), (.isub, 0, 0, 0), (.aload_n 0, 0, 0, 0), (.getfield 26, 7, 7, 0), (.aload_n 0, 0, 0, 0), (.getfield 77, 7, 34, 0), (.iload_n 1, 0, 0, 0), (.iaload, 0, 0, 0), (.imul, 0, 0, 0), (.iload 6, 0, 0, 0), (.imul, 0, 0, 0), (.isub, 0, 0, 0)] [3 * (61 * (i + 1) + j) + 1, i] (by decide +kernel) rfl (pc' := 94) (ls' := [some (.ref 72), some (.int (nI i)), some (.int (nI j)), some (.int (nI l)), some (.int (nI s)), some (.int pA), some (.int qA), some (.int (((M 72 6) * pA) * qA))]) (st' := [.int (((M 40 (3 * (61 * (i + 1) + j) + 1)) - (((M 72 6) * pA) * qA)) - (((M 72 7) * (M 94 i)) * qA))]) (M' := M) rfl ⟨⟨(by simp only [nI_add, pk_mul, nI_s1, Nat.reduceAdd, Nat.reduceMul]), (by show _ < 11163; omega)⟩, trivial, trivial, trivial, rfl, trivial, rfl, trivial, ⟨rfl, (by show _ < 60; omega)⟩, trivial, trivial, trivial, trivial, trivial⟩ ?_
        refine g_ireturn (by decide +kernel) rfl rfl ⟨?_, rfl⟩
        unfold swF; grind
    · have nc2 : s = l := (nI_eq (by omega) (by omega)).mp (by simpa only [nI_add, pk_mul, nI_s1, n0_lit] using c2)
      refine blk 7 [(.iconst 0, 0, 0, (nI 0)), (.goto (13), 54, 0, 0), (.istore 7, 0, 0, 0), (.iload 4, 0, 0, 0), (.iconst 1, 0, 0, (nI 1))] [] (by decide +kernel) rfl (pc' := 59) (ls' := [some (.ref 72), some (.int (nI i)), some (.int (nI j)), some (.int (nI l)), some (.int (nI s)), some (.int pA), some (.int qA), some (.int (nI 0))]) (st' := [.int (nI 1), .int (nI s)]) (M' := M) rfl ⟨trivial, trivial, trivial, trivial, trivial, trivial⟩ ?_
      refine g_icmp_ne (off := 36) (tgt := 95) (by decide +kernel) (by decide) (fun c4 => ?_) (fun c4 => ?_)
      · have nc4 : s ≠ 1 := by
          have z : ¬ nI s = nI 1 := by simpa only [nI_add, pk_mul, nI_s1, n0_lit] using c4
          rw [nI_eq (by omega) (by omega)] at z
          omega
        refine blk 7 [(.aload_n 0, 0, 0, 0), (.getfield 83, 7, 36, 0), (.aload_n 0, 0, 0, 0), (.iload_n 1, 0, 0, 0), (.iload_n 2, 0, 0, 0), (.iconst 1, 0, 0, (nI 1)), (.iadd, 0, 0, 0), (.iconst 2, 0, 0, (nI 2))] [] (by decide +kernel) rfl (pc' := 105) (ls' := [some (.ref 72), some (.int (nI i)), some (.int (nI j)), some (.int (nI l)), some (.int (nI s)), some (.int pA), some (.int qA), some (.int (nI 0))]) (st' := [.int (nI 2), .int ((nI j) + (nI 1)), .int (nI i), .ref 72, .ref 40]) (M' := M) rfl ⟨trivial, rfl, trivial, trivial, trivial, trivial, trivial, trivial, trivial⟩ ?_
        refine g_callV (s_entry M _ _ _) ok_X7_stepWorth_X7_entry (by decide +kernel) rfl (c := 7) rfl (by decide) rfl (Nat.le_of_ble_eq_true rfl) (fun r M' h => ?_) rfl
        obtain ⟨hr, hM⟩ := h
        rw [hr, hM]
        show G _ 108 [some (.ref 72), some (.int (nI i)), some (.int (nI j)), some (.int (nI l)), some (.int (nI s)), some (.int pA), some (.int qA), some (.int (nI 0))] [.int (nI 3 * (nI 61 * (nI i) + ((nI j) + (nI 1))) + (nI 2)), .ref 40] M _
        refine blk 7 [(.iaload, 0, 0, 0), (.iload 7, 0, 0, 0), (.isub, 0, 0, 0), (.aload_n 0, 0, 0, 0), (.getfield 26, 7, 7, 0), (.aload_n 0, 0, 0, 0), (.getfield 80, 7, 35, 0), (.iload_n 2, 0, 0, 0), (.iaload, 0, 0, 0), (.imul, 0, 0, 0), (.iload 5, 0, 0, 0), (.imul, 0, 0, 0), (.isub, 0, 0, 0)] [3 * (61 * i + (j + 1)) + 2, j] (by decide +kernel) rfl (pc' := 127) (ls' := [some (.ref 72), some (.int (nI i)), some (.int (nI j)), some (.int (nI l)), some (.int (nI s)), some (.int pA), some (.int qA), some (.int (nI 0))]) (st' := [.int (((M 40 (3 * (61 * i + (j + 1)) + 2)) - (nI 0)) - (((M 72 7) * (M 95 j)) * pA))]) (M' := M) rfl ⟨⟨(by simp only [nI_add, pk_mul, nI_s1, Nat.reduceAdd, Nat.reduceMul]), (by show _ < 11163; omega)⟩, trivial, trivial, trivial, rfl, trivial, rfl, trivial, ⟨rfl, (by show _ < 60; omega)⟩, trivial, trivial, trivial, trivial, trivial⟩ ?_
        refine g_ireturn (by decide +kernel) rfl rfl ⟨?_, rfl⟩
        unfold swF; grind
      · have nc4 : s = 1 := (nI_eq (by omega) (by omega)).mp (by simpa only [nI_add, pk_mul, nI_s1, n0_lit] using c4)
        refine blk 7 [(.aload_n 0, 0, 0, 0), (.getfield 83, 7, 36, 0), (.aload_n 0, 0, 0, 0), (.iload_n 1, 0, 0, 0), (.iconst 1, 0, 0, (nI 1)), (.iadd, 0, 0, 0), (.iload_n 2, 0, 0, 0), (.iconst 1, 0, 0, (nI 1))] [] (by decide +kernel) rfl (pc' := 72) (ls' := [some (.ref 72), some (.int (nI i)), some (.int (nI j)), some (.int (nI l)), some (.int (nI s)), some (.int pA), some (.int qA), some (.int (nI 0))]) (st' := [.int (nI 1), .int (nI j), .int ((nI i) + (nI 1)), .ref 72, .ref 40]) (M' := M) rfl ⟨trivial, rfl, trivial, trivial, trivial, trivial, trivial, trivial, trivial⟩ ?_
        refine g_callV (s_entry M _ _ _) ok_X7_stepWorth_X7_entry (by decide +kernel) rfl (c := 7) rfl (by decide) rfl (Nat.le_of_ble_eq_true rfl) (fun r M' h => ?_) rfl
        obtain ⟨hr, hM⟩ := h
        rw [hr, hM]
        show G _ 75 [some (.ref 72), some (.int (nI i)), some (.int (nI j)), some (.int (nI l)), some (.int (nI s)), some (.int pA), some (.int qA), some (.int (nI 0))] [.int (nI 3 * (nI 61 * ((nI i) + (nI 1)) + (nI j)) + (nI 1)), .ref 40] M _
        refine blk 7 [(.iaload, 0, 0, 0), (.iload 7, 0, 0, 0), (.isub, 0, 0, 0), (.aload_n 0, 0, 0, 0), (.getfield 26, 7, 7, 0), (.aload_n 0, 0, 0, 0), (.getfield 77, 7, 34, 0), (.iload_n 1, 0, 0, 0), (.iaload, 0, 0, 0), (.imul, 0, 0, 0), (.iload 6, 0, 0, 0), (.imul, 0, 0, 0), (.isub, 0, 0, 0)] [3 * (61 * (i + 1) + j) + 1, i] (by decide +kernel) rfl (pc' := 94) (ls' := [some (.ref 72), some (.int (nI i)), some (.int (nI j)), some (.int (nI l)), some (.int (nI s)), some (.int pA), some (.int qA), some (.int (nI 0))]) (st' := [.int (((M 40 (3 * (61 * (i + 1) + j) + 1)) - (nI 0)) - (((M 72 7) * (M 94 i)) * qA))]) (M' := M) rfl ⟨⟨(by simp only [nI_add, pk_mul, nI_s1, Nat.reduceAdd, Nat.reduceMul]), (by show _ < 11163; omega)⟩, trivial, trivial, trivial, rfl, trivial, rfl, trivial, ⟨rfl, (by show _ < 60; omega)⟩, trivial, trivial, trivial, trivial, trivial⟩ ?_
        refine g_ireturn (by decide +kernel) rfl rfl ⟨?_, rfl⟩
        unfold swF; grind
  · have nc1 : s = 0 := (nI_eq (by omega) (by omega)).mp (by simpa only [nI_add, pk_mul, nI_s1, n0_lit] using c1)
    refine blk 7 [(.aload_n 0, 0, 0, 0), (.getfield 74, 7, 33, 0), (.bipush 60, 0, 0, (nI 60)), (.iload_n 1, 0, 0, 0), (.imul, 0, 0, 0), (.iload_n 2, 0, 0, 0), (.iadd, 0, 0, 0), (.iaload, 0, 0, 0), (.aload_n 0, 0, 0, 0), (.getfield 83, 7, 36, 0), (.aload_n 0, 0, 0, 0), (.iload_n 1, 0, 0, 0), (.iconst 1, 0, 0, (nI 1)), (.iadd, 0, 0, 0), (.iload_n 2, 0, 0, 0), (.iconst 1, 0, 0, (nI 1)), (.iadd, 0, 0, 0), (.iconst 0, 0, 0, (nI 0))] [60 * i + j] (by decide +kernel) rfl (pc' := 28) (ls' := [some (.ref 72), some (.int (nI i)), some (.int (nI j)), some (.int (nI l)), some (.int (nI s)), some (.int pA), some (.int qA), none]) (st' := [.int (nI 0), .int ((nI j) + (nI 1)), .int ((nI i) + (nI 1)), .ref 72, .ref 40, .int (M 93 (60 * i + j))]) (M' := M) rfl ⟨trivial, rfl, trivial, trivial, trivial, trivial, trivial, ⟨(by simp only [nI_add, pk_mul, nI_s1, Nat.reduceAdd, Nat.reduceMul]), (by show _ < 3600; omega)⟩, trivial, rfl, trivial, trivial, trivial, trivial, trivial, trivial, trivial, trivial, trivial⟩ ?_
    refine g_callV (s_entry M _ _ _) ok_X7_stepWorth_X7_entry (by decide +kernel) rfl (c := 7) rfl (by decide) rfl (Nat.le_of_ble_eq_true rfl) (fun r M' h => ?_) rfl
    obtain ⟨hr, hM⟩ := h
    rw [hr, hM]
    show G _ 31 [some (.ref 72), some (.int (nI i)), some (.int (nI j)), some (.int (nI l)), some (.int (nI s)), some (.int pA), some (.int qA), none] [.int (nI 3 * (nI 61 * ((nI i) + (nI 1)) + ((nI j) + (nI 1))) + (nI 0)), .ref 40, .int (M 93 (60 * i + j))] M _
    refine blk 7 [(.iaload, 0, 0, 0), (.iadd, 0, 0, 0)] [3 * (61 * (i + 1) + (j + 1)) + 0] (by decide +kernel) rfl (pc' := 33) (ls' := [some (.ref 72), some (.int (nI i)), some (.int (nI j)), some (.int (nI l)), some (.int (nI s)), some (.int pA), some (.int qA), none]) (st' := [.int ((M 93 (60 * i + j)) + (M 40 (3 * (61 * (i + 1) + (j + 1)) + 0)))]) (M' := M) rfl ⟨⟨(by simp only [nI_add, pk_mul, nI_s1, Nat.reduceAdd, Nat.reduceMul]), (by show _ < 11163; omega)⟩, trivial, trivial⟩ ?_
    refine g_ireturn (by decide +kernel) rfl rfl ⟨?_, rfl⟩
    unfold swF; grind
end
section
/-! the reference: bothAt, prepare -/
def baF (M : Mem) (i j v : Nat) : Nat → Int32 := fun w => if ¬ hb (M 72 25) v = 0 ∧ ¬ hb (M 72 26) w = 0 ∧ ¬ M 90 (60 * v + i) = -1 ∧ ¬ M 91 (60 * w + j) = -1 then M 77 (4 * cd (M 90 (60 * v + i)) + cd (M 91 (60 * w + j))) * M 39 v * M 39 w else 0
theorem ixy {x y : Int32} {a b : Nat} (h1 : x = nI a) (h2 : y = nI b) : nI 4 * x + y = nI (4 * a + b) := by rw [h1, h2, pk_mul, nI_add]
/-- the cells of the two groups are cells -/
def mcell (M : Mem) (p q : Nat) : Prop := (∀ v k, v < 5 → k < p → ¬ hb (M 72 25) v = 0 → okc (M 90 (60 * v + k))) ∧ (∀ v k, v < 5 → k < q → ¬ hb (M 72 26) v = 0 → okc (M 91 (60 * v + k)))
theorem l_both2 {M : Mem} {p q i j v : Nat} {A : Int32} {Post : Option Value → Mem → Prop} (hp6 : p ≤ 60) (hq6 : q ≤ 60) (hc : mcell M p q) (hi : i < p) (hj : j < q) (hv : v < 5) (hp : G mX7_bothAt 5 [some (.ref 72), some (.int (nI i)), some (.int (nI j)), some (.int (A + psum (baF M i j v) 5)), some (.int (nI (v + 1))), none] [] M Post) : ∀ d w, d = 5 - w → w ≤ 5 → G mX7_bothAt 14 [some (.ref 72), some (.int (nI i)), some (.int (nI j)), some (.int (A + psum (baF M i j v) w)), some (.int (nI v)), some (.int (nI w))] [] M Post := by
  intro d
  induction d using Nat.strongRecOn with
  | ind d ih =>
    intro w hd hw
    refine blk 7 [(.iload 5, 0, 0, 0), (.iconst 5, 0, 0, (nI 5))] [] (by decide +kernel) rfl (pc' := 17) (ls' := [some (.ref 72), some (.int (nI i)), some (.int (nI j)), some (.int (A + psum (baF M i j v) w)), some (.int (nI v)), some (.int (nI w))]) (st' := [.int (nI 5), .int (nI w)]) (M' := M) rfl ⟨trivial, trivial, trivial⟩ ?_
    refine g_icmp_ge (off := 118) (tgt := 135) (by decide +kernel) (by decide) (fun c1 => ?_) (fun c1 => ?_)
    · have nc1 : 5 ≤ w := (nI_leI (by omega) (by omega)).mp (by simpa only [nI_add, pk_mul, nI_s1, n0_lit] using c1)
      refine blk 7 [(.iinc 4 1, 0, 0, (nI 1)), (.goto (-133), 5, 0, 0)] [] (by decide +kernel) rfl (pc' := 5) (ls' := [some (.ref 72), some (.int (nI i)), some (.int (nI j)), some (.int (A + psum (baF M i j v) w)), some (.int (nI v + nI 1)), some (.int (nI w))]) (st' := []) (M' := M) rfl ⟨trivial, trivial, trivial⟩ ?_
      have e : w = 5 := by omega
      subst e
      refine G.sub (ls' := [some (.ref 72), some (.int (nI i)), some (.int (nI j)), some (.int (A + psum (baF M i j v) 5)), some (.int (nI (v + 1))), none]) ?_ ⟨rfl, rfl, rfl, congrArg (fun z => some (Value.int z)) rfl, congrArg (fun z => some (Value.int z)) (by simp only [nI_add, nI_s1]), trivial⟩
      exact hp
    · have nc1 : w < 5 := by
        have z : ¬ nI 5 ≤ nI w := by simpa only [nI_add, pk_mul, nI_s1, n0_lit] using c1
        rw [nI_leI (by omega) (by omega)] at z
        omega
      refine blk 7 [(.aload_n 0, 0, 0, 0), (.aload_n 0, 0, 0, 0), (.getfield 118, 7, 25, 0), (.iload 4, 0, 0, 0)] [] (by decide +kernel) rfl (pc' := 27) (ls' := [some (.ref 72), some (.int (nI i)), some (.int (nI j)), some (.int (A + psum (baF M i j v) w)), some (.int (nI v)), some (.int (nI w))]) (st' := [.int (nI v), .int (M 72 25), .ref 72]) (M' := M) rfl ⟨trivial, trivial, rfl, trivial, trivial⟩ ?_
      refine g_callV (s_isIn M (M 72 25) v) ok_X7_bothAt_X7_isIn (by decide +kernel) rfl (c := 7) rfl (by decide) rfl (Nat.le_of_ble_eq_true rfl) (fun r M' h => ?_) rfl
      obtain ⟨hr, hM⟩ := h
      rw [hr, hM]
      show G _ 30 [some (.ref 72), some (.int (nI i)), some (.int (nI j)), some (.int (A + psum (baF M i j v) w)), some (.int (nI v)), some (.int (nI w))] [.int (hb (M 72 25) v)] M _
      refine g_if_eq (off := 99) (tgt := 129) (by decide +kernel) (by decide) (fun c2 => ?_) (fun c2 => ?_)
      · refine blk 7 [(.iinc 5 1, 0, 0, (nI 1)), (.goto (-118), 14, 0, 0)] [] (by decide +kernel) rfl (pc' := 14) (ls' := [some (.ref 72), some (.int (nI i)), some (.int (nI j)), some (.int (A + psum (baF M i j v) w)), some (.int (nI v)), some (.int (nI w + nI 1))]) (st' := []) (M' := M) rfl ⟨trivial, trivial, trivial⟩ ?_
        refine G.sub (ls' := [some (.ref 72), some (.int (nI i)), some (.int (nI j)), some (.int (A + psum (baF M i j v) (w + 1))), some (.int (nI v)), some (.int (nI (w + 1)))]) ?_ ⟨rfl, rfl, rfl, congrArg (fun z => some (Value.int z)) (by rw [psum, show baF M i j v w = 0 by simp only [baF]; rw [if_neg (fun z => z.1 c2)], Int32.add_zero]), rfl, congrArg (fun z => some (Value.int z)) (by simp only [nI_add, nI_s1]), trivial⟩
        exact ih (d - 1) (by omega) (w + 1) (by omega) (by omega)
      · refine blk 7 [(.aload_n 0, 0, 0, 0), (.aload_n 0, 0, 0, 0), (.getfield 124, 7, 26, 0), (.iload 5, 0, 0, 0)] [] (by decide +kernel) rfl (pc' := 40) (ls' := [some (.ref 72), some (.int (nI i)), some (.int (nI j)), some (.int (A + psum (baF M i j v) w)), some (.int (nI v)), some (.int (nI w))]) (st' := [.int (nI w), .int (M 72 26), .ref 72]) (M' := M) rfl ⟨trivial, trivial, rfl, trivial, trivial⟩ ?_
        refine g_callV (s_isIn M (M 72 26) w) ok_X7_bothAt_X7_isIn (by decide +kernel) rfl (c := 7) rfl (by decide) rfl (Nat.le_of_ble_eq_true rfl) (fun r M' h => ?_) rfl
        obtain ⟨hr, hM⟩ := h
        rw [hr, hM]
        show G _ 43 [some (.ref 72), some (.int (nI i)), some (.int (nI j)), some (.int (A + psum (baF M i j v) w)), some (.int (nI v)), some (.int (nI w))] [.int (hb (M 72 26) w)] M _
        refine g_if_eq (off := 86) (tgt := 129) (by decide +kernel) (by decide) (fun c3 => ?_) (fun c3 => ?_)
        · refine blk 7 [(.iinc 5 1, 0, 0, (nI 1)), (.goto (-118), 14, 0, 0)] [] (by decide +kernel) rfl (pc' := 14) (ls' := [some (.ref 72), some (.int (nI i)), some (.int (nI j)), some (.int (A + psum (baF M i j v) w)), some (.int (nI v)), some (.int (nI w + nI 1))]) (st' := []) (M' := M) rfl ⟨trivial, trivial, trivial⟩ ?_
          refine G.sub (ls' := [some (.ref 72), some (.int (nI i)), some (.int (nI j)), some (.int (A + psum (baF M i j v) (w + 1))), some (.int (nI v)), some (.int (nI (w + 1)))]) ?_ ⟨rfl, rfl, rfl, congrArg (fun z => some (Value.int z)) (by rw [psum, show baF M i j v w = 0 by simp only [baF]; rw [if_neg (fun z => z.2.1 c3)], Int32.add_zero]), rfl, congrArg (fun z => some (Value.int z)) (by simp only [nI_add, nI_s1]), trivial⟩
          exact ih (d - 1) (by omega) (w + 1) (by omega) (by omega)
        · refine blk 7 [(.aload_n 0, 0, 0, 0), (.getfield 65, 7, 29, 0), (.bipush 60, 0, 0, (nI 60)), (.iload 4, 0, 0, 0), (.imul, 0, 0, 0), (.iload_n 1, 0, 0, 0), (.iadd, 0, 0, 0), (.iaload, 0, 0, 0), (.iconst (-1), 0, 0, (-1))] [60 * v + i] (by decide +kernel) rfl (pc' := 59) (ls' := [some (.ref 72), some (.int (nI i)), some (.int (nI j)), some (.int (A + psum (baF M i j v) w)), some (.int (nI v)), some (.int (nI w))]) (st' := [.int (-1), .int (M 90 (60 * v + i))]) (M' := M) rfl ⟨trivial, rfl, trivial, trivial, trivial, trivial, trivial, ⟨(by simp only [nI_add, pk_mul, nI_s1, Nat.reduceAdd, Nat.reduceMul]), (by show _ < 300; omega)⟩, trivial, trivial⟩ ?_
          refine g_icmp_eq (off := 70) (tgt := 129) (by decide +kernel) (by decide) (fun c4 => ?_) (fun c4 => ?_)
          · refine blk 7 [(.iinc 5 1, 0, 0, (nI 1)), (.goto (-118), 14, 0, 0)] [] (by decide +kernel) rfl (pc' := 14) (ls' := [some (.ref 72), some (.int (nI i)), some (.int (nI j)), some (.int (A + psum (baF M i j v) w)), some (.int (nI v)), some (.int (nI w + nI 1))]) (st' := []) (M' := M) rfl ⟨trivial, trivial, trivial⟩ ?_
            refine G.sub (ls' := [some (.ref 72), some (.int (nI i)), some (.int (nI j)), some (.int (A + psum (baF M i j v) (w + 1))), some (.int (nI v)), some (.int (nI (w + 1)))]) ?_ ⟨rfl, rfl, rfl, congrArg (fun z => some (Value.int z)) (by rw [psum, show baF M i j v w = 0 by simp only [baF]; rw [if_neg (fun z => z.2.2.1 c4)], Int32.add_zero]), rfl, congrArg (fun z => some (Value.int z)) (by simp only [nI_add, nI_s1]), trivial⟩
            exact ih (d - 1) (by omega) (w + 1) (by omega) (by omega)
          · refine blk 7 [(.aload_n 0, 0, 0, 0), (.getfield 68, 7, 30, 0), (.bipush 60, 0, 0, (nI 60)), (.iload 5, 0, 0, 0), (.imul, 0, 0, 0), (.iload_n 2, 0, 0, 0), (.iadd, 0, 0, 0), (.iaload, 0, 0, 0), (.iconst (-1), 0, 0, (-1))] [60 * w + j] (by decide +kernel) rfl (pc' := 75) (ls' := [some (.ref 72), some (.int (nI i)), some (.int (nI j)), some (.int (A + psum (baF M i j v) w)), some (.int (nI v)), some (.int (nI w))]) (st' := [.int (-1), .int (M 91 (60 * w + j))]) (M' := M) rfl ⟨trivial, rfl, trivial, trivial, trivial, trivial, trivial, ⟨(by simp only [nI_add, pk_mul, nI_s1, Nat.reduceAdd, Nat.reduceMul]), (by show _ < 300; omega)⟩, trivial, trivial⟩ ?_
            refine g_icmp_eq (off := 54) (tgt := 129) (by decide +kernel) (by decide) (fun c5 => ?_) (fun c5 => ?_)
            · refine blk 7 [(.iinc 5 1, 0, 0, (nI 1)), (.goto (-118), 14, 0, 0)] [] (by decide +kernel) rfl (pc' := 14) (ls' := [some (.ref 72), some (.int (nI i)), some (.int (nI j)), some (.int (A + psum (baF M i j v) w)), some (.int (nI v)), some (.int (nI w + nI 1))]) (st' := []) (M' := M) rfl ⟨trivial, trivial, trivial⟩ ?_
              refine G.sub (ls' := [some (.ref 72), some (.int (nI i)), some (.int (nI j)), some (.int (A + psum (baF M i j v) (w + 1))), some (.int (nI v)), some (.int (nI (w + 1)))]) ?_ ⟨rfl, rfl, rfl, congrArg (fun z => some (Value.int z)) (by rw [psum, show baF M i j v w = 0 by simp only [baF]; rw [if_neg (fun z => z.2.2.2 c5)], Int32.add_zero]), rfl, congrArg (fun z => some (Value.int z)) (by simp only [nI_add, nI_s1]), trivial⟩
              exact ih (d - 1) (by omega) (w + 1) (by omega) (by omega)
            · have ex := okc_cd (hc.1 v i (by omega) hi c2) c4
              have ey := okc_cd (hc.2 w j (by omega) hj c3) c5
              refine blk 7 [(.iload_n 3, 0, 0, 0), (.aload_n 0, 0, 0, 0), (.getfield 19, 7, 5, 0), (.iconst 4, 0, 0, (nI 4)), (.aload_n 0, 0, 0, 0), (.getfield 65, 7, 29, 0), (.bipush 60, 0, 0, (nI 60)), (.iload 4, 0, 0, 0), (.imul, 0, 0, 0), (.iload_n 1, 0, 0, 0), (.iadd, 0, 0, 0), (.iaload, 0, 0, 0), (.imul, 0, 0, 0), (.aload_n 0, 0, 0, 0), (.getfield 68, 7, 30, 0), (.bipush 60, 0, 0, (nI 60)), (.iload 5, 0, 0, 0), (.imul, 0, 0, 0), (.iload_n 2, 0, 0, 0), (.iadd, 0, 0, 0), (.iaload, 0, 0, 0), (.iadd, 0, 0, 0), (.iaload, 0, 0, 0), (.aload_n 0, 0, 0, 0), (.getfield 86, 7, 37, 0), (.iload 4, 0, 0, 0), (.iaload, 0, 0, 0), (.imul, 0, 0, 0), (.aload_n 0, 0, 0, 0), (.getfield 86, 7, 37, 0), (.iload 5, 0, 0, 0), (.iaload, 0, 0, 0), (.imul, 0, 0, 0), (.iadd, 0, 0, 0), (.istore_n 3, 0, 0, 0), (.iinc 5 1, 0, 0, (nI 1)), (.goto (-118), 14, 0, 0)] [60 * v + i, 60 * w + j, 4 * cd (M 90 (60 * v + i)) + cd (M 91 (60 * w + j)), v, w] (by decide +kernel) rfl (pc' := 14) (ls' := [some (.ref 72), some (.int (nI i)), some (.int (nI j)), some (.int ((A + psum (baF M i j v) w) + (((M 77 (4 * cd (M 90 (60 * v + i)) + cd (M 91 (60 * w + j)))) * (M 39 v)) * (M 39 w)))), some (.int (nI v)), some (.int (nI w + nI 1))]) (st' := []) (M' := M) rfl ⟨trivial, trivial, rfl, trivial, trivial, rfl, trivial, trivial, trivial, trivial, trivial, ⟨(by simp only [nI_add, pk_mul, nI_s1, Nat.reduceAdd, Nat.reduceMul]), (by show _ < 300; omega)⟩, trivial, trivial, rfl, trivial, trivial, trivial, trivial, trivial, ⟨(by simp only [nI_add, pk_mul, nI_s1, Nat.reduceAdd, Nat.reduceMul]), (by show _ < 300; omega)⟩, trivial, ⟨(ixy ex.1 ey.1), (by show _ < 16; omega)⟩, trivial, rfl, trivial, ⟨rfl, (by show _ < 5; omega)⟩, trivial, trivial, rfl, trivial, ⟨rfl, (by show _ < 5; omega)⟩, trivial, trivial, trivial, trivial, trivial, trivial⟩ ?_
              refine G.sub (ls' := [some (.ref 72), some (.int (nI i)), some (.int (nI j)), some (.int (A + psum (baF M i j v) (w + 1))), some (.int (nI v)), some (.int (nI (w + 1)))]) ?_ ⟨rfl, rfl, rfl, congrArg (fun z => some (Value.int z)) (by rw [psum, ← Int32.add_assoc]; congr 1; simp only [baF]; rw [if_pos ⟨c2, c3, c4, c5⟩]), rfl, congrArg (fun z => some (Value.int z)) (by simp only [nI_add, nI_s1]), trivial⟩
              exact ih (d - 1) (by omega) (w + 1) (by omega) (by omega)
def btF (M : Mem) (i j : Nat) : Int32 := psum (fun v => psum (baF M i j v) 5) 5
theorem l_both {M : Mem} {p q i j : Nat} (hp6 : p ≤ 60) (hq6 : q ≤ 60) (hc : mcell M p q) (hi : i < p) (hj : j < q) : ∀ d v, d = 5 - v → v ≤ 5 → G mX7_bothAt 5 [some (.ref 72), some (.int (nI i)), some (.int (nI j)), some (.int (psum (fun v => psum (baF M i j v) 5) v)), some (.int (nI v)), none] [] M (Ret (btF M i j) M) := by
  intro d
  induction d using Nat.strongRecOn with
  | ind d ih =>
    intro v hd hw
    refine blk 7 [(.iload 4, 0, 0, 0), (.iconst 5, 0, 0, (nI 5))] [] (by decide +kernel) rfl (pc' := 8) (ls' := [some (.ref 72), some (.int (nI i)), some (.int (nI j)), some (.int (psum (fun v => psum (baF M i j v) 5) v)), some (.int (nI v)), none]) (st' := [.int (nI 5), .int (nI v)]) (M' := M) rfl ⟨trivial, trivial, trivial⟩ ?_
    refine g_icmp_ge (off := 133) (tgt := 141) (by decide +kernel) (by decide) (fun c1 => ?_) (fun c1 => ?_)
    · have nc1 : 5 ≤ v := (nI_leI (by omega) (by omega)).mp (by simpa only [nI_add, pk_mul, nI_s1, n0_lit] using c1)
      refine blk 7 [(.iload_n 3, 0, 0, 0)] [] (by decide +kernel) rfl (pc' := 142) (ls' := [some (.ref 72), some (.int (nI i)), some (.int (nI j)), some (.int (psum (fun v => psum (baF M i j v) 5) v)), some (.int (nI v)), none]) (st' := [.int (psum (fun v => psum (baF M i j v) 5) v)]) (M' := M) rfl ⟨trivial, trivial⟩ ?_
      have e : v = 5 := by omega
      subst e
      exact g_ireturn (by decide +kernel) rfl rfl ⟨rfl, rfl⟩
    · have nc1 : v < 5 := by
        have z : ¬ nI 5 ≤ nI v := by simpa only [nI_add, pk_mul, nI_s1, n0_lit] using c1
        rw [nI_leI (by omega) (by omega)] at z
        omega
      refine blk 7 [(.iconst 0, 0, 0, (nI 0)), (.istore 5, 0, 0, 0)] [] (by decide +kernel) rfl (pc' := 14) (ls' := [some (.ref 72), some (.int (nI i)), some (.int (nI j)), some (.int (psum (fun v => psum (baF M i j v) 5) v)), some (.int (nI v)), some (.int (nI 0))]) (st' := []) (M' := M) rfl ⟨trivial, trivial, trivial⟩ ?_
      refine G.sub (ls' := [some (.ref 72), some (.int (nI i)), some (.int (nI j)), some (.int (psum (fun v => psum (baF M i j v) 5) v + psum (baF M i j v) 0)), some (.int (nI v)), some (.int (nI 0))]) ?_ ⟨rfl, rfl, rfl, congrArg (fun z => some (Value.int z)) (Int32.add_zero _).symm, rfl, rfl, trivial⟩
      exact l_both2 hp6 hq6 hc hi hj (by omega) (ih (d - 1) (by omega) (v + 1) (by omega) (by omega)) _ 0 rfl (by omega)
theorem s_both (M : Mem) {p q i j : Nat} (hp6 : p ≤ 60) (hq6 : q ≤ 60) (hc : mcell M p q) (hi : i < p) (hj : j < q) : Spec mX7_bothAt [.ref 72, .int (nI i), .int (nI j)] M (Ret (btF M i j) M) := by
  refine Spec.of (by decide) (by simp [Value.category]) (Nat.le_of_ble_eq_true rfl) ?_
  refine blk 7 [(.iconst 0, 0, 0, (nI 0)), (.istore_n 3, 0, 0, 0), (.iconst 0, 0, 0, (nI 0)), (.istore 4, 0, 0, 0)] [] (by decide +kernel) rfl (pc' := 5) (ls' := [some (.ref 72), some (.int (nI i)), some (.int (nI j)), some (.int (nI 0)), some (.int (nI 0)), none]) (st' := []) (M' := M) rfl ⟨trivial, trivial, trivial, trivial, trivial⟩ ?_
  exact l_both hp6 hq6 hc hi hj _ 0 rfl (by omega)
/-- the weights of the rows with a letter in column i: set in field f, cells in tag c -/
def pmF (M : Mem) (f c i : Nat) : Nat → Int32 := fun w => if ¬ hb (M 72 f) w = 0 ∧ ¬ M c (60 * w + i) = -1 then M 39 w else 0
theorem l_prepP2 {M : Mem} {i : Nat} {Post : Option Value → Mem → Prop} (hi : i < 60) (hp : ∀ N, (∀ z, z ≠ 94 → N z = M z) → (∀ k, k < i + 1 → N 94 k = psum (pmF M 25 90 k) 5) → G mX7_prepare 76 [some (.ref 72), some (.int (nI i)), none] [] N Post) : ∀ d w N, d = 5 - w → w ≤ 5 → (∀ z, z ≠ 94 → N z = M z) → (∀ k, k < i → N 94 k = psum (pmF M 25 90 k) 5) → N 94 i = psum (pmF M 25 90 i) w → G mX7_prepare 19 [some (.ref 72), some (.int (nI i)), some (.int (nI w))] [] N Post := by
  intro d
  induction d using Nat.strongRecOn with
  | ind d ih =>
    intro w N hd hw h0 j1 j2
    refine blk 7 [(.iload_n 2, 0, 0, 0), (.iconst 5, 0, 0, (nI 5))] [] (by decide +kernel) rfl (pc' := 21) (ls' := [some (.ref 72), some (.int (nI i)), some (.int (nI w))]) (st' := [.int (nI 5), .int (nI w)]) (M' := N) rfl ⟨trivial, trivial, trivial⟩ ?_
    refine g_icmp_ge (off := 55) (tgt := 76) (by decide +kernel) (by decide) (fun c1 => ?_) (fun c1 => ?_)
    · have nc1 : 5 ≤ w := (nI_leI (by omega) (by omega)).mp (by simpa only [nI_add, pk_mul, nI_s1, n0_lit] using c1)
      have e : w = 5 := by omega
      subst e
      refine G.sub (ls' := [some (.ref 72), some (.int (nI i)), none]) ?_ ⟨rfl, rfl, trivial⟩
      refine hp N h0 (fun k hk => ?_)
      by_cases e : k = i
      · subst e; exact j2
      · exact j1 k (by omega)
    · have nc1 : w < 5 := by
        have z : ¬ nI 5 ≤ nI w := by simpa only [nI_add, pk_mul, nI_s1, n0_lit] using c1
        rw [nI_leI (by omega) (by omega)] at z
        omega
      refine blk 7 [(.aload_n 0, 0, 0, 0), (.getfield 77, 7, 34, 0), (.iload_n 1, 0, 0, 0), (.dup2, 0, 0, 0), (.iaload, 0, 0, 0), (.aload_n 0, 0, 0, 0), (.aload_n 0, 0, 0, 0), (.getfield 118, 7, 25, 0), (.iload_n 2, 0, 0, 0)] [i] (by decide +kernel) rfl (pc' := 37) (ls' := [some (.ref 72), some (.int (nI i)), some (.int (nI w))]) (st' := [.int (nI w), .int (N 72 25), .ref 72, .int (N 94 i), .int (nI i), .ref 94]) (M' := N) rfl ⟨trivial, rfl, trivial, ⟨rfl, rfl⟩, ⟨rfl, (by show _ < 60; omega)⟩, trivial, trivial, rfl, trivial, trivial⟩ ?_
      refine g_callV (s_isIn N (N 72 25) w) ok_X7_prepare_X7_isIn (by decide +kernel) rfl (c := 7) rfl (by decide) rfl (Nat.le_of_ble_eq_true rfl) (fun r M' h => ?_) rfl
      obtain ⟨hr, hM⟩ := h
      rw [hr, hM]
      show G _ 40 [some (.ref 72), some (.int (nI i)), some (.int (nI w))] [.int (hb (N 72 25) w), .int (N 94 i), .int (nI i), .ref 94] N _
      refine g_if_eq (off := 27) (tgt := 67) (by decide +kernel) (by decide) (fun c2 => ?_) (fun c2 => ?_)
      · refine blk 7 [(.iconst 0, 0, 0, (nI 0)), (.iadd, 0, 0, 0), (.iastore, 0, 0, 0), (.iinc 2 1, 0, 0, (nI 1)), (.goto (-54), 19, 0, 0)] [i] (by decide +kernel) rfl (pc' := 19) (ls' := [some (.ref 72), some (.int (nI i)), some (.int (nI w + nI 1))]) (st' := []) (M' := stm N 94 i ((N 94 i) + (nI 0))) rfl ⟨trivial, trivial, ⟨rfl, (by show _ < 60; omega), by decide⟩, trivial, trivial, trivial⟩ ?_
        refine G.sub (ls' := [some (.ref 72), some (.int (nI i)), some (.int (nI (w + 1)))]) ?_ ⟨rfl, rfl, congrArg (fun z => some (Value.int z)) (by simp only [nI_add, nI_s1]), trivial⟩
        refine ih (d - 1) (by omega) (w + 1) _ (by omega) (by omega) (fun z hz => by rw [stm_ne hz]; exact h0 z hz) (fun k hk => by rw [stm_off (by omega)]; exact j1 k hk) ?_
        rw [stm_self]
        rw [show N 94 i = _ from j2, psum, show pmF M 25 90 i w = 0 by simp only [pmF]; rw [if_neg (fun z => z.1 (by rw [← h0 72 (by decide)]; exact c2))]]; rfl
      · refine blk 7 [(.aload_n 0, 0, 0, 0), (.getfield 65, 7, 29, 0), (.bipush 60, 0, 0, (nI 60)), (.iload_n 2, 0, 0, 0), (.imul, 0, 0, 0), (.iload_n 1, 0, 0, 0), (.iadd, 0, 0, 0), (.iaload, 0, 0, 0), (.iconst (-1), 0, 0, (-1))] [60 * w + i] (by decide +kernel) rfl (pc' := 55) (ls' := [some (.ref 72), some (.int (nI i)), some (.int (nI w))]) (st' := [.int (-1), .int (N 90 (60 * w + i)), .int (N 94 i), .int (nI i), .ref 94]) (M' := N) rfl ⟨trivial, rfl, trivial, trivial, trivial, trivial, trivial, ⟨(by simp only [nI_add, pk_mul, nI_s1, Nat.reduceAdd, Nat.reduceMul]), (by show _ < 300; omega)⟩, trivial, trivial⟩ ?_
        refine g_icmp_eq (off := 12) (tgt := 67) (by decide +kernel) (by decide) (fun c3 => ?_) (fun c3 => ?_)
        · refine blk 7 [(.iconst 0, 0, 0, (nI 0)), (.iadd, 0, 0, 0), (.iastore, 0, 0, 0), (.iinc 2 1, 0, 0, (nI 1)), (.goto (-54), 19, 0, 0)] [i] (by decide +kernel) rfl (pc' := 19) (ls' := [some (.ref 72), some (.int (nI i)), some (.int (nI w + nI 1))]) (st' := []) (M' := stm N 94 i ((N 94 i) + (nI 0))) rfl ⟨trivial, trivial, ⟨rfl, (by show _ < 60; omega), by decide⟩, trivial, trivial, trivial⟩ ?_
          refine G.sub (ls' := [some (.ref 72), some (.int (nI i)), some (.int (nI (w + 1)))]) ?_ ⟨rfl, rfl, congrArg (fun z => some (Value.int z)) (by simp only [nI_add, nI_s1]), trivial⟩
          refine ih (d - 1) (by omega) (w + 1) _ (by omega) (by omega) (fun z hz => by rw [stm_ne hz]; exact h0 z hz) (fun k hk => by rw [stm_off (by omega)]; exact j1 k hk) ?_
          rw [stm_self]
          rw [show N 94 i = _ from j2, psum, show pmF M 25 90 i w = 0 by simp only [pmF]; rw [if_neg (fun z => z.2 (by rw [← h0 90 (by decide)]; exact c3))]]; rfl
        · refine blk 7 [(.aload_n 0, 0, 0, 0), (.getfield 86, 7, 37, 0), (.iload_n 2, 0, 0, 0), (.iaload, 0, 0, 0), (.goto (4), 68, 0, 0), (.iadd, 0, 0, 0), (.iastore, 0, 0, 0), (.iinc 2 1, 0, 0, (nI 1)), (.goto (-54), 19, 0, 0)] [w, i] (by decide +kernel) rfl (pc' := 19) (ls' := [some (.ref 72), some (.int (nI i)), some (.int (nI w + nI 1))]) (st' := []) (M' := stm N 94 i ((N 94 i) + (N 39 w))) rfl ⟨trivial, rfl, trivial, ⟨rfl, (by show _ < 5; omega)⟩, trivial, trivial, ⟨rfl, (by show _ < 60; omega), by decide⟩, trivial, trivial, trivial⟩ ?_
          refine G.sub (ls' := [some (.ref 72), some (.int (nI i)), some (.int (nI (w + 1)))]) ?_ ⟨rfl, rfl, congrArg (fun z => some (Value.int z)) (by simp only [nI_add, nI_s1]), trivial⟩
          refine ih (d - 1) (by omega) (w + 1) _ (by omega) (by omega) (fun z hz => by rw [stm_ne hz]; exact h0 z hz) (fun k hk => by rw [stm_off (by omega)]; exact j1 k hk) ?_
          rw [stm_self]
          rw [show N 94 i = _ from j2, psum]; congr 1; simp only [pmF]; rw [if_pos ⟨by rw [← h0 72 (by decide)]; exact c2, by rw [← h0 90 (by decide)]; exact c3⟩, ← h0 39 (by decide)]
theorem l_prepP {M : Mem} {n : Nat} {Post : Option Value → Mem → Prop} (hn6 : n ≤ 60) (hn0 : M 72 27 = nI n) (hp : ∀ N, (∀ z, z ≠ 94 → N z = M z) → (∀ k, k < n → N 94 k = psum (pmF M 25 90 k) 5) → G mX7_prepare 82 [some (.ref 72), none, none] [] N Post) : ∀ d i N, d = n - i → i ≤ n → (∀ z, z ≠ 94 → N z = M z) → (∀ k, k < i → N 94 k = psum (pmF M 25 90 k) 5) → G mX7_prepare 2 [some (.ref 72), some (.int (nI i)), none] [] N Post := by
  intro d
  induction d using Nat.strongRecOn with
  | ind d ih =>
    intro i N hd hi h0 j1
    have hn : N 72 27 = nI n := by rw [h0 72 (by decide)]; exact hn0
    refine blk 7 [(.iload_n 1, 0, 0, 0), (.aload_n 0, 0, 0, 0), (.getfield 121, 7, 27, 0)] [] (by decide +kernel) rfl (pc' := 7) (ls' := [some (.ref 72), some (.int (nI i)), none]) (st' := [.int (N 72 27), .int (nI i)]) (M' := N) rfl ⟨trivial, trivial, rfl, trivial⟩ ?_
    refine g_icmp_ge (off := 75) (tgt := 82) (by decide +kernel) (by decide) (fun c1 => ?_) (fun c1 => ?_)
    · have nc1 : n ≤ i := (nI_leI (by omega) (by omega)).mp (by simpa only [hn, nI_add, pk_mul, nI_s1, n0_lit] using c1)
      have e : i = n := by omega
      subst e
      refine G.sub (ls' := [some (.ref 72), none, none]) ?_ ⟨rfl, trivial⟩
      exact hp N h0 j1
    · have nc1 : i < n := by
        have z : ¬ nI n ≤ nI i := by simpa only [hn, nI_add, pk_mul, nI_s1, n0_lit] using c1
        rw [nI_leI (by omega) (by omega)] at z
        omega
      refine blk 7 [(.aload_n 0, 0, 0, 0), (.getfield 77, 7, 34, 0), (.iload_n 1, 0, 0, 0), (.iconst 0, 0, 0, (nI 0)), (.iastore, 0, 0, 0), (.iconst 0, 0, 0, (nI 0)), (.istore_n 2, 0, 0, 0)] [i] (by decide +kernel) rfl (pc' := 19) (ls' := [some (.ref 72), some (.int (nI i)), some (.int (nI 0))]) (st' := []) (M' := stm N 94 i (nI 0)) rfl ⟨trivial, rfl, trivial, trivial, ⟨rfl, (by show _ < 60; omega), by decide⟩, trivial, trivial, trivial⟩ ?_
      refine l_prepP2 (M := M) (by omega) (fun A a0 a1 => ?_) _ 0 _ rfl (by omega) (fun z hz => by rw [stm_ne hz]; exact h0 z hz) (fun k hk => by rw [stm_off (by omega)]; exact j1 k hk) (by rw [stm_self]; exact nI_0)
      refine blk 7 [(.iinc 1 1, 0, 0, (nI 1)), (.goto (-77), 2, 0, 0)] [] (by decide +kernel) rfl (pc' := 2) (ls' := [some (.ref 72), some (.int (nI i + nI 1)), none]) (st' := []) (M' := A) rfl ⟨trivial, trivial, trivial⟩ ?_
      refine G.sub (ls' := [some (.ref 72), some (.int (nI (i + 1))), none]) ?_ ⟨rfl, congrArg (fun z => some (Value.int z)) (nI_add _ _), trivial⟩
      exact ih (d - 1) (by omega) (i + 1) A (by omega) (by omega) a0 a1
theorem l_prepQ2 {M : Mem} {i : Nat} {Post : Option Value → Mem → Prop} (hi : i < 60) (hp : ∀ N, (∀ z, z ≠ 95 → N z = M z) → (∀ k, k < i + 1 → N 95 k = psum (pmF M 26 91 k) 5) → G mX7_prepare 158 [some (.ref 72), some (.int (nI i)), none] [] N Post) : ∀ d w N, d = 5 - w → w ≤ 5 → (∀ z, z ≠ 95 → N z = M z) → (∀ k, k < i → N 95 k = psum (pmF M 26 91 k) 5) → N 95 i = psum (pmF M 26 91 i) w → G mX7_prepare 101 [some (.ref 72), some (.int (nI i)), some (.int (nI w))] [] N Post := by
  intro d
  induction d using Nat.strongRecOn with
  | ind d ih =>
    intro w N hd hw h0 j1 j2
    refine blk 7 [(.iload_n 2, 0, 0, 0), (.iconst 5, 0, 0, (nI 5))] [] (by decide +kernel) rfl (pc' := 103) (ls' := [some (.ref 72), some (.int (nI i)), some (.int (nI w))]) (st' := [.int (nI 5), .int (nI w)]) (M' := N) rfl ⟨trivial, trivial, trivial⟩ ?_
    refine g_icmp_ge (off := 55) (tgt := 158) (by decide +kernel) (by decide) (fun c1 => ?_) (fun c1 => ?_)
    · have nc1 : 5 ≤ w := (nI_leI (by omega) (by omega)).mp (by simpa only [nI_add, pk_mul, nI_s1, n0_lit] using c1)
      have e : w = 5 := by omega
      subst e
      refine G.sub (ls' := [some (.ref 72), some (.int (nI i)), none]) ?_ ⟨rfl, rfl, trivial⟩
      refine hp N h0 (fun k hk => ?_)
      by_cases e : k = i
      · subst e; exact j2
      · exact j1 k (by omega)
    · have nc1 : w < 5 := by
        have z : ¬ nI 5 ≤ nI w := by simpa only [nI_add, pk_mul, nI_s1, n0_lit] using c1
        rw [nI_leI (by omega) (by omega)] at z
        omega
      refine blk 7 [(.aload_n 0, 0, 0, 0), (.getfield 80, 7, 35, 0), (.iload_n 1, 0, 0, 0), (.dup2, 0, 0, 0), (.iaload, 0, 0, 0), (.aload_n 0, 0, 0, 0), (.aload_n 0, 0, 0, 0), (.getfield 124, 7, 26, 0), (.iload_n 2, 0, 0, 0)] [i] (by decide +kernel) rfl (pc' := 119) (ls' := [some (.ref 72), some (.int (nI i)), some (.int (nI w))]) (st' := [.int (nI w), .int (N 72 26), .ref 72, .int (N 95 i), .int (nI i), .ref 95]) (M' := N) rfl ⟨trivial, rfl, trivial, ⟨rfl, rfl⟩, ⟨rfl, (by show _ < 60; omega)⟩, trivial, trivial, rfl, trivial, trivial⟩ ?_
      refine g_callV (s_isIn N (N 72 26) w) ok_X7_prepare_X7_isIn (by decide +kernel) rfl (c := 7) rfl (by decide) rfl (Nat.le_of_ble_eq_true rfl) (fun r M' h => ?_) rfl
      obtain ⟨hr, hM⟩ := h
      rw [hr, hM]
      show G _ 122 [some (.ref 72), some (.int (nI i)), some (.int (nI w))] [.int (hb (N 72 26) w), .int (N 95 i), .int (nI i), .ref 95] N _
      refine g_if_eq (off := 27) (tgt := 149) (by decide +kernel) (by decide) (fun c2 => ?_) (fun c2 => ?_)
      · refine blk 7 [(.iconst 0, 0, 0, (nI 0)), (.iadd, 0, 0, 0), (.iastore, 0, 0, 0), (.iinc 2 1, 0, 0, (nI 1)), (.goto (-54), 101, 0, 0)] [i] (by decide +kernel) rfl (pc' := 101) (ls' := [some (.ref 72), some (.int (nI i)), some (.int (nI w + nI 1))]) (st' := []) (M' := stm N 95 i ((N 95 i) + (nI 0))) rfl ⟨trivial, trivial, ⟨rfl, (by show _ < 60; omega), by decide⟩, trivial, trivial, trivial⟩ ?_
        refine G.sub (ls' := [some (.ref 72), some (.int (nI i)), some (.int (nI (w + 1)))]) ?_ ⟨rfl, rfl, congrArg (fun z => some (Value.int z)) (by simp only [nI_add, nI_s1]), trivial⟩
        refine ih (d - 1) (by omega) (w + 1) _ (by omega) (by omega) (fun z hz => by rw [stm_ne hz]; exact h0 z hz) (fun k hk => by rw [stm_off (by omega)]; exact j1 k hk) ?_
        rw [stm_self]
        rw [show N 95 i = _ from j2, psum, show pmF M 26 91 i w = 0 by simp only [pmF]; rw [if_neg (fun z => z.1 (by rw [← h0 72 (by decide)]; exact c2))]]; rfl
      · refine blk 7 [(.aload_n 0, 0, 0, 0), (.getfield 68, 7, 30, 0), (.bipush 60, 0, 0, (nI 60)), (.iload_n 2, 0, 0, 0), (.imul, 0, 0, 0), (.iload_n 1, 0, 0, 0), (.iadd, 0, 0, 0), (.iaload, 0, 0, 0), (.iconst (-1), 0, 0, (-1))] [60 * w + i] (by decide +kernel) rfl (pc' := 137) (ls' := [some (.ref 72), some (.int (nI i)), some (.int (nI w))]) (st' := [.int (-1), .int (N 91 (60 * w + i)), .int (N 95 i), .int (nI i), .ref 95]) (M' := N) rfl ⟨trivial, rfl, trivial, trivial, trivial, trivial, trivial, ⟨(by simp only [nI_add, pk_mul, nI_s1, Nat.reduceAdd, Nat.reduceMul]), (by show _ < 300; omega)⟩, trivial, trivial⟩ ?_
        refine g_icmp_eq (off := 12) (tgt := 149) (by decide +kernel) (by decide) (fun c3 => ?_) (fun c3 => ?_)
        · refine blk 7 [(.iconst 0, 0, 0, (nI 0)), (.iadd, 0, 0, 0), (.iastore, 0, 0, 0), (.iinc 2 1, 0, 0, (nI 1)), (.goto (-54), 101, 0, 0)] [i] (by decide +kernel) rfl (pc' := 101) (ls' := [some (.ref 72), some (.int (nI i)), some (.int (nI w + nI 1))]) (st' := []) (M' := stm N 95 i ((N 95 i) + (nI 0))) rfl ⟨trivial, trivial, ⟨rfl, (by show _ < 60; omega), by decide⟩, trivial, trivial, trivial⟩ ?_
          refine G.sub (ls' := [some (.ref 72), some (.int (nI i)), some (.int (nI (w + 1)))]) ?_ ⟨rfl, rfl, congrArg (fun z => some (Value.int z)) (by simp only [nI_add, nI_s1]), trivial⟩
          refine ih (d - 1) (by omega) (w + 1) _ (by omega) (by omega) (fun z hz => by rw [stm_ne hz]; exact h0 z hz) (fun k hk => by rw [stm_off (by omega)]; exact j1 k hk) ?_
          rw [stm_self]
          rw [show N 95 i = _ from j2, psum, show pmF M 26 91 i w = 0 by simp only [pmF]; rw [if_neg (fun z => z.2 (by rw [← h0 91 (by decide)]; exact c3))]]; rfl
        · refine blk 7 [(.aload_n 0, 0, 0, 0), (.getfield 86, 7, 37, 0), (.iload_n 2, 0, 0, 0), (.iaload, 0, 0, 0), (.goto (4), 150, 0, 0), (.iadd, 0, 0, 0), (.iastore, 0, 0, 0), (.iinc 2 1, 0, 0, (nI 1)), (.goto (-54), 101, 0, 0)] [w, i] (by decide +kernel) rfl (pc' := 101) (ls' := [some (.ref 72), some (.int (nI i)), some (.int (nI w + nI 1))]) (st' := []) (M' := stm N 95 i ((N 95 i) + (N 39 w))) rfl ⟨trivial, rfl, trivial, ⟨rfl, (by show _ < 5; omega)⟩, trivial, trivial, ⟨rfl, (by show _ < 60; omega), by decide⟩, trivial, trivial, trivial⟩ ?_
          refine G.sub (ls' := [some (.ref 72), some (.int (nI i)), some (.int (nI (w + 1)))]) ?_ ⟨rfl, rfl, congrArg (fun z => some (Value.int z)) (by simp only [nI_add, nI_s1]), trivial⟩
          refine ih (d - 1) (by omega) (w + 1) _ (by omega) (by omega) (fun z hz => by rw [stm_ne hz]; exact h0 z hz) (fun k hk => by rw [stm_off (by omega)]; exact j1 k hk) ?_
          rw [stm_self]
          rw [show N 95 i = _ from j2, psum]; congr 1; simp only [pmF]; rw [if_pos ⟨by rw [← h0 72 (by decide)]; exact c2, by rw [← h0 91 (by decide)]; exact c3⟩, ← h0 39 (by decide)]
theorem l_prepQ {M : Mem} {n : Nat} {Post : Option Value → Mem → Prop} (hn6 : n ≤ 60) (hn0 : M 72 28 = nI n) (hp : ∀ N, (∀ z, z ≠ 95 → N z = M z) → (∀ k, k < n → N 95 k = psum (pmF M 26 91 k) 5) → G mX7_prepare 164 [some (.ref 72), none, none] [] N Post) : ∀ d i N, d = n - i → i ≤ n → (∀ z, z ≠ 95 → N z = M z) → (∀ k, k < i → N 95 k = psum (pmF M 26 91 k) 5) → G mX7_prepare 84 [some (.ref 72), some (.int (nI i)), none] [] N Post := by
  intro d
  induction d using Nat.strongRecOn with
  | ind d ih =>
    intro i N hd hi h0 j1
    have hn : N 72 28 = nI n := by rw [h0 72 (by decide)]; exact hn0
    refine blk 7 [(.iload_n 1, 0, 0, 0), (.aload_n 0, 0, 0, 0), (.getfield 127, 7, 28, 0)] [] (by decide +kernel) rfl (pc' := 89) (ls' := [some (.ref 72), some (.int (nI i)), none]) (st' := [.int (N 72 28), .int (nI i)]) (M' := N) rfl ⟨trivial, trivial, rfl, trivial⟩ ?_
    refine g_icmp_ge (off := 75) (tgt := 164) (by decide +kernel) (by decide) (fun c1 => ?_) (fun c1 => ?_)
    · have nc1 : n ≤ i := (nI_leI (by omega) (by omega)).mp (by simpa only [hn, nI_add, pk_mul, nI_s1, n0_lit] using c1)
      have e : i = n := by omega
      subst e
      refine G.sub (ls' := [some (.ref 72), none, none]) ?_ ⟨rfl, trivial⟩
      exact hp N h0 j1
    · have nc1 : i < n := by
        have z : ¬ nI n ≤ nI i := by simpa only [hn, nI_add, pk_mul, nI_s1, n0_lit] using c1
        rw [nI_leI (by omega) (by omega)] at z
        omega
      refine blk 7 [(.aload_n 0, 0, 0, 0), (.getfield 80, 7, 35, 0), (.iload_n 1, 0, 0, 0), (.iconst 0, 0, 0, (nI 0)), (.iastore, 0, 0, 0), (.iconst 0, 0, 0, (nI 0)), (.istore_n 2, 0, 0, 0)] [i] (by decide +kernel) rfl (pc' := 101) (ls' := [some (.ref 72), some (.int (nI i)), some (.int (nI 0))]) (st' := []) (M' := stm N 95 i (nI 0)) rfl ⟨trivial, rfl, trivial, trivial, ⟨rfl, (by show _ < 60; omega), by decide⟩, trivial, trivial, trivial⟩ ?_
      refine l_prepQ2 (M := M) (by omega) (fun A a0 a1 => ?_) _ 0 _ rfl (by omega) (fun z hz => by rw [stm_ne hz]; exact h0 z hz) (fun k hk => by rw [stm_off (by omega)]; exact j1 k hk) (by rw [stm_self]; exact nI_0)
      refine blk 7 [(.iinc 1 1, 0, 0, (nI 1)), (.goto (-77), 84, 0, 0)] [] (by decide +kernel) rfl (pc' := 84) (ls' := [some (.ref 72), some (.int (nI i + nI 1)), none]) (st' := []) (M' := A) rfl ⟨trivial, trivial, trivial⟩ ?_
      refine G.sub (ls' := [some (.ref 72), some (.int (nI (i + 1))), none]) ?_ ⟨rfl, congrArg (fun z => some (Value.int z)) (nI_add _ _), trivial⟩
      exact ih (d - 1) (by omega) (i + 1) A (by omega) (by omega) a0 a1
theorem btF_congr {M N : Mem} {i j : Nat} (h : ∀ z, z ≠ 93 → N z = M z) : btF N i j = btF M i j := by
  unfold btF baF; rw [h 72 (by decide), h 90 (by decide), h 91 (by decide), h 77 (by decide), h 39 (by decide)]
theorem l_prepB2 {M : Mem} {p q i : Nat} {Post : Option Value → Mem → Prop} (hp6 : p ≤ 60) (hq6 : q ≤ 60) (hc : mcell M p q) (hq : M 72 28 = nI q) (hi : i < p) (hp : ∀ N, (∀ z, z ≠ 93 → N z = M z) → (∀ a b, a < i + 1 → b < q → N 93 (60 * a + b) = btF M a b) → G mX7_prepare 207 [some (.ref 72), some (.int (nI i)), none] [] N Post) : ∀ d j N, d = q - j → j ≤ q → (∀ z, z ≠ 93 → N z = M z) → (∀ a b, a < i → b < q → N 93 (60 * a + b) = btF M a b) → (∀ b, b < j → N 93 (60 * i + b) = btF M i b) → G mX7_prepare 176 [some (.ref 72), some (.int (nI i)), some (.int (nI j))] [] N Post := by
  intro d
  induction d using Nat.strongRecOn with
  | ind d ih =>
    intro j N hd hj h0 j1 j2
    have hqN : N 72 28 = nI q := by rw [h0 72 (by decide)]; exact hq
    have hcN : mcell N p q := by unfold mcell; rw [h0 72 (by decide), h0 90 (by decide), h0 91 (by decide)]; exact hc
    refine blk 7 [(.iload_n 2, 0, 0, 0), (.aload_n 0, 0, 0, 0), (.getfield 127, 7, 28, 0)] [] (by decide +kernel) rfl (pc' := 181) (ls' := [some (.ref 72), some (.int (nI i)), some (.int (nI j))]) (st' := [.int (N 72 28), .int (nI j)]) (M' := N) rfl ⟨trivial, trivial, rfl, trivial⟩ ?_
    refine g_icmp_ge (off := 26) (tgt := 207) (by decide +kernel) (by decide) (fun c1 => ?_) (fun c1 => ?_)
    · have nc1 : q ≤ j := (nI_leI (by omega) (by omega)).mp (by simpa only [hqN, nI_add, pk_mul, nI_s1, n0_lit] using c1)
      have e : j = q := by omega
      subst e
      refine G.sub (ls' := [some (.ref 72), some (.int (nI i)), none]) ?_ ⟨rfl, rfl, trivial⟩
      refine hp N h0 (fun a b ha hb => ?_)
      by_cases e : a = i
      · subst e; exact j2 b hb
      · exact j1 a b (by omega) hb
    · have nc1 : j < q := by
        have z : ¬ nI q ≤ nI j := by simpa only [hqN, nI_add, pk_mul, nI_s1, n0_lit] using c1
        rw [nI_leI (by omega) (by omega)] at z
        omega
      refine blk 7 [(.aload_n 0, 0, 0, 0), (.getfield 74, 7, 33, 0), (.bipush 60, 0, 0, (nI 60)), (.iload_n 1, 0, 0, 0), (.imul, 0, 0, 0), (.iload_n 2, 0, 0, 0), (.iadd, 0, 0, 0), (.aload_n 0, 0, 0, 0), (.iload_n 1, 0, 0, 0), (.iload_n 2, 0, 0, 0)] [] (by decide +kernel) rfl (pc' := 197) (ls' := [some (.ref 72), some (.int (nI i)), some (.int (nI j))]) (st' := [.int (nI j), .int (nI i), .ref 72, .int (((nI 60) * (nI i)) + (nI j)), .ref 93]) (M' := N) rfl ⟨trivial, rfl, trivial, trivial, trivial, trivial, trivial, trivial, trivial, trivial, trivial⟩ ?_
      refine g_callV (s_both N (p := p) (q := q) (i := i) (j := j) hp6 hq6 hcN hi (by omega)) ok_X7_prepare_X7_bothAt (by decide +kernel) rfl (c := 7) rfl (by decide) rfl (Nat.le_of_ble_eq_true rfl) (fun r M' h => ?_) rfl
      obtain ⟨hr, hM⟩ := h
      rw [hr, hM]
      show G _ 200 [some (.ref 72), some (.int (nI i)), some (.int (nI j))] [.int (btF N i j), .int (((nI 60) * (nI i)) + (nI j)), .ref 93] N _
      refine blk 7 [(.iastore, 0, 0, 0), (.iinc 2 1, 0, 0, (nI 1)), (.goto (-28), 176, 0, 0)] [60 * i + j] (by decide +kernel) rfl (pc' := 176) (ls' := [some (.ref 72), some (.int (nI i)), some (.int (nI j + nI 1))]) (st' := []) (M' := stm N 93 (60 * i + j) (btF N i j)) rfl ⟨⟨(by simp only [hqN, nI_add, pk_mul, nI_s1, Nat.reduceAdd, Nat.reduceMul]), (by show _ < 3600; omega), by decide⟩, trivial, trivial, trivial⟩ ?_
      refine G.sub (ls' := [some (.ref 72), some (.int (nI i)), some (.int (nI (j + 1)))]) ?_ ⟨rfl, rfl, congrArg (fun z => some (Value.int z)) (by simp only [nI_add, nI_s1]), trivial⟩
      refine ih (d - 1) (by omega) (j + 1) _ (by omega) (by omega) (fun z hz => by rw [stm_ne hz]; exact h0 z hz) (fun a b ha hb => ?_) (fun b hb => ?_)
      · rw [stm_off (by omega)]; exact j1 a b ha hb
      · by_cases e : b = j
        · subst e; rw [stm_self]; exact btF_congr (fun z hz => h0 z hz)
        · rw [stm_off (by omega)]; exact j2 b (by omega)
theorem l_prepB {M : Mem} {p q : Nat} {Post : Option Value → Mem → Prop} (hp6 : p ≤ 60) (hq6 : q ≤ 60) (hc : mcell M p q) (hp1 : M 72 27 = nI p) (hq : M 72 28 = nI q) (hp : ∀ N, (∀ z, z ≠ 93 → N z = M z) → (∀ a b, a < p → b < q → N 93 (60 * a + b) = btF M a b) → Post none N) : ∀ d i N, d = p - i → i ≤ p → (∀ z, z ≠ 93 → N z = M z) → (∀ a b, a < i → b < q → N 93 (60 * a + b) = btF M a b) → G mX7_prepare 166 [some (.ref 72), some (.int (nI i)), none] [] N Post := by
  intro d
  induction d using Nat.strongRecOn with
  | ind d ih =>
    intro i N hd hi h0 j1
    have hpN : N 72 27 = nI p := by rw [h0 72 (by decide)]; exact hp1
    refine blk 7 [(.iload_n 1, 0, 0, 0), (.aload_n 0, 0, 0, 0), (.getfield 121, 7, 27, 0)] [] (by decide +kernel) rfl (pc' := 171) (ls' := [some (.ref 72), some (.int (nI i)), none]) (st' := [.int (N 72 27), .int (nI i)]) (M' := N) rfl ⟨trivial, trivial, rfl, trivial⟩ ?_
    refine g_icmp_ge (off := 42) (tgt := 213) (by decide +kernel) (by decide) (fun c1 => ?_) (fun c1 => ?_)
    · have nc1 : p ≤ i := (nI_leI (by omega) (by omega)).mp (by simpa only [hpN, nI_add, pk_mul, nI_s1, n0_lit] using c1)
      have e : i = p := by omega
      subst e
      exact g_return (by decide +kernel) rfl (hp N h0 j1)
    · have nc1 : i < p := by
        have z : ¬ nI p ≤ nI i := by simpa only [hpN, nI_add, pk_mul, nI_s1, n0_lit] using c1
        rw [nI_leI (by omega) (by omega)] at z
        omega
      refine blk 7 [(.iconst 0, 0, 0, (nI 0)), (.istore_n 2, 0, 0, 0)] [] (by decide +kernel) rfl (pc' := 176) (ls' := [some (.ref 72), some (.int (nI i)), some (.int (nI 0))]) (st' := []) (M' := N) rfl ⟨trivial, trivial, trivial⟩ ?_
      refine l_prepB2 (M := M) hp6 hq6 hc hq (by omega) (fun A a0 a1 => ?_) _ 0 N rfl (by omega) h0 j1 (fun b hb => absurd hb (by omega))
      refine blk 7 [(.iinc 1 1, 0, 0, (nI 1)), (.goto (-44), 166, 0, 0)] [] (by decide +kernel) rfl (pc' := 166) (ls' := [some (.ref 72), some (.int (nI i + nI 1)), none]) (st' := []) (M' := A) rfl ⟨trivial, trivial, trivial⟩ ?_
      refine G.sub (ls' := [some (.ref 72), some (.int (nI (i + 1))), none]) ?_ ⟨rfl, congrArg (fun z => some (Value.int z)) (nI_add _ _), trivial⟩
      exact ih (d - 1) (by omega) (i + 1) A (by omega) (by omega) a0 a1
def prepP (M : Mem) (p q : Nat) : Option Value → Mem → Prop := fun r N => r = none ∧ (∀ i, i < p → N 94 i = psum (pmF M 25 90 i) 5) ∧ (∀ j, j < q → N 95 j = psum (pmF M 26 91 j) 5) ∧ (∀ a b, a < p → b < q → N 93 (60 * a + b) = btF M a b) ∧ ∀ z, (z < 93 ∨ 95 < z) → N z = M z
theorem s_prepare (M : Mem) {p q : Nat} (hp6 : p ≤ 60) (hq6 : q ≤ 60) (hc : mcell M p q) (hp : M 72 27 = nI p) (hq : M 72 28 = nI q) : Spec mX7_prepare [.ref 72] M (prepP M p q) := by
  refine Spec.of (by decide) (by simp [Value.category]) (Nat.le_of_ble_eq_true rfl) ?_
  refine blk 7 [(.iconst 0, 0, 0, (nI 0)), (.istore_n 1, 0, 0, 0)] [] (by decide +kernel) rfl (pc' := 2) (ls' := [some (.ref 72), some (.int (nI 0)), none]) (st' := []) (M' := M) rfl ⟨trivial, trivial, trivial⟩ ?_
  refine l_prepP (M := M) (n := p) hp6 hp (fun A a0 a1 => ?_) _ 0 M rfl (by omega) (fun _ _ => rfl) (fun k h => absurd h (by omega))
  refine blk 7 [(.iconst 0, 0, 0, (nI 0)), (.istore_n 1, 0, 0, 0)] [] (by decide +kernel) rfl (pc' := 84) (ls' := [some (.ref 72), some (.int (nI 0)), none]) (st' := []) (M' := A) rfl ⟨trivial, trivial, trivial⟩ ?_
  refine l_prepQ (M := A) (n := q) hq6 (by rw [a0 72 (by decide)]; exact hq) (fun B b0 b1 => ?_) _ 0 A rfl (by omega) (fun _ _ => rfl) (fun k h => absurd h (by omega))
  have eB : ∀ z, z ≠ 94 → z ≠ 95 → B z = M z := fun z h1 h2 => by rw [b0 z h2, a0 z h1]
  refine blk 7 [(.iconst 0, 0, 0, (nI 0)), (.istore_n 1, 0, 0, 0)] [] (by decide +kernel) rfl (pc' := 166) (ls' := [some (.ref 72), some (.int (nI 0)), none]) (st' := []) (M' := B) rfl ⟨trivial, trivial, trivial⟩ ?_
  refine l_prepB (M := B) (p := p) (q := q) hp6 hq6 (by unfold mcell; rw [eB 72 (by decide) (by decide), eB 90 (by decide) (by decide), eB 91 (by decide) (by decide)]; exact hc) (by rw [eB 72 (by decide) (by decide)]; exact hp) (by rw [eB 72 (by decide) (by decide)]; exact hq) (fun C c0 c1 => ⟨rfl, fun i hi => ?_, fun j hj => ?_, fun a b ha hb => ?_, fun z hz => ?_⟩) _ 0 B rfl (by omega) (fun _ _ => rfl) (fun a b h => absurd h (by omega))
  · rw [c0 94 (by decide), b0 94 (by decide)]; exact a1 i hi
  · rw [c0 95 (by decide), b1 j hj]; exact psum_congr (fun w _ => by unfold pmF; rw [a0 72 (by decide), a0 91 (by decide), a0 39 (by decide)])
  · rw [c1 a b ha hb]; unfold btF baF; rw [eB 72 (by decide) (by decide), eB 90 (by decide) (by decide), eB 91 (by decide) (by decide), eB 77 (by decide) (by decide), eB 39 (by decide) (by decide)]
  · rw [c0 z (by omega)]; exact eB z (by omega) (by omega)
end
section
/-! the reference: merge's table -/
/-- the greatest of the steps that can be taken: is there one, and its worth -/
def msF (can : Nat → Bool) (v : Nat → Int32) : Nat → Int32 × Int32
  | 0 => (nI 0, nI 0)
  | k + 1 => if can k then (nI 1, if ¬ (msF can v k).1 = 0 ∧ ¬ (msF can v k).2 < v k then (msF can v k).2 else v k) else msF can v k
theorem msF_congr {can : Nat → Bool} {v w : Nat → Int32} {n : Nat} (h : ∀ k, k < n → can k = true → v k = w k) : msF can v n = msF can w n := by
  induction n with
  | zero => rfl
  | succ n ih =>
    rw [msF, msF, ih (fun k hk => h k (by omega))]
    by_cases c : can n = true
    · rw [if_pos c, if_pos c, h n (by omega) c]
    · rw [if_neg c, if_neg c]
def mdp (M : Mem) (p q : Nat) (pA qA : Int32) (i j l : Nat) : Int32 := (msF (canB p q i j) (fun s => swF M i j l s pA qA) 3).2
def mgr (M : Mem) (p q : Nat) : Prop := M 72 27 = nI p ∧ M 72 28 = nI q ∧ p ≤ 60 ∧ q ≤ 60
def mfP (M N : Mem) (p q : Nat) (pA qA : Int32) (i j m : Nat) : Prop := (∀ l, l < m → N 40 (3 * (61 * i + j) + l) = mdp M p q pA qA i j l) ∧ (∀ k, (∀ l, l < 3 → k ≠ 3 * (61 * i + j) + l) → N 40 k = M 40 k) ∧ ∀ z, z ≠ 40 → N z = M z
theorem canB_of {p q i j s : Nat} (h : canB p q i j s = true) : (s = 0 → i < p ∧ j < q) ∧ (s = 1 → i < p) ∧ (2 ≤ s → j < q) := by unfold canB at h; grind
theorem mdp_keep {M N : Mem} {p q i j l : Nat} {pA qA : Int32} (h0 : ∀ z, z ≠ 40 → N z = M z) (h1 : i < p → j < q → N 40 (3 * (61 * (i + 1) + (j + 1)) + 0) = M 40 (3 * (61 * (i + 1) + (j + 1)) + 0)) (h2 : i < p → N 40 (3 * (61 * (i + 1) + j) + 1) = M 40 (3 * (61 * (i + 1) + j) + 1)) (h3 : j < q → N 40 (3 * (61 * i + (j + 1)) + 2) = M 40 (3 * (61 * i + (j + 1)) + 2)) : mdp N p q pA qA i j l = mdp M p q pA qA i j l := by
  unfold mdp
  rw [msF_congr (fun k hk hc => ?_)]
  have c := canB_of hc
  unfold swF
  rw [h0 93 (by decide), h0 72 (by decide), h0 94 (by decide), h0 95 (by decide)]
  by_cases e0 : k = 0
  · rw [if_pos e0, if_pos e0, h1 (c.1 e0).1 (c.1 e0).2]
  · rw [if_neg e0, if_neg e0]
    by_cases e1 : k = 1
    · rw [if_pos e1, if_pos e1, h2 (c.2.1 e1)]
    · rw [if_neg e1, if_neg e1, h3 (c.2.2 (by omega))]
theorem l_ms {M : Mem} {p q i j l : Nat} {pA qA : Int32} {Post : Option Value → Mem → Prop} (hm : mgr M p q) (hi : i ≤ p) (hj : j ≤ q) (hl : l < 3) (hp : G mX7_merge 123 [some (.ref 72), some (.int pA), some (.int qA), some (.int (nI i)), some (.int (nI j)), some (.int (nI l)), none, some (.int (mdp M p q pA qA i j l)), none, none] [] M Post) : ∀ d k, d = 3 - k → k ≤ 3 → G mX7_merge 60 [some (.ref 72), some (.int pA), some (.int qA), some (.int (nI i)), some (.int (nI j)), some (.int (nI l)), some (.int ((msF (canB p q i j) (fun s => swF M i j l s pA qA) k).1)), some (.int ((msF (canB p q i j) (fun s => swF M i j l s pA qA) k).2)), some (.int (nI k)), none] [] M Post := by
  intro d
  induction d using Nat.strongRecOn with
  | ind d ih =>
    intro k hd hk
    refine blk 7 [(.iload 8, 0, 0, 0), (.iconst 3, 0, 0, (nI 3))] [] (by decide +kernel) rfl (pc' := 63) (ls' := [some (.ref 72), some (.int pA), some (.int qA), some (.int (nI i)), some (.int (nI j)), some (.int (nI l)), some (.int ((msF (canB p q i j) (fun s => swF M i j l s pA qA) k).1)), some (.int ((msF (canB p q i j) (fun s => swF M i j l s pA qA) k).2)), some (.int (nI k)), none]) (st' := [.int (nI 3), .int (nI k)]) (M' := M) rfl ⟨trivial, trivial, trivial⟩ ?_
    refine g_icmp_ge (off := 60) (tgt := 123) (by decide +kernel) (by decide) (fun c1 => ?_) (fun c1 => ?_)
    · have nc1 : 3 ≤ k := (nI_leI (by omega) (by omega)).mp (by simpa only [nI_add, pk_mul, nI_s1, n0_lit] using c1)
      have e : k = 3 := by omega
      subst e
      refine G.sub (ls' := [some (.ref 72), some (.int pA), some (.int qA), some (.int (nI i)), some (.int (nI j)), some (.int (nI l)), none, some (.int (mdp M p q pA qA i j l)), none, none]) ?_ ⟨rfl, rfl, rfl, rfl, rfl, rfl, congrArg (fun z => some (Value.int z)) rfl, trivial⟩
      exact hp
    · have nc1 : k < 3 := by
        have z : ¬ nI 3 ≤ nI k := by simpa only [nI_add, pk_mul, nI_s1, n0_lit] using c1
        rw [nI_leI (by omega) (by omega)] at z
        omega
      refine blk 7 [(.aload_n 0, 0, 0, 0), (.iload_n 3, 0, 0, 0), (.iload 4, 0, 0, 0), (.iload 8, 0, 0, 0)] [] (by decide +kernel) rfl (pc' := 72) (ls' := [some (.ref 72), some (.int pA), some (.int qA), some (.int (nI i)), some (.int (nI j)), some (.int (nI l)), some (.int ((msF (canB p q i j) (fun s => swF M i j l s pA qA) k).1)), some (.int ((msF (canB p q i j) (fun s => swF M i j l s pA qA) k).2)), some (.int (nI k)), none]) (st' := [.int (nI k), .int (nI j), .int (nI i), .ref 72]) (M' := M) rfl ⟨trivial, trivial, trivial, trivial, trivial⟩ ?_
      refine g_callV (s_can M (p := p) (q := q) (i := i) (j := j) (s := k) hm.1 hm.2.1 hm.2.2.1 hm.2.2.2 (by have := hm.2.2.1; omega) (by have := hm.2.2.2; omega) (by omega)) ok_X7_merge_X7_canStep (by decide +kernel) rfl (c := 7) rfl (by decide) rfl (Nat.le_of_ble_eq_true rfl) (fun r M' h => ?_) rfl
      obtain ⟨hr, hM⟩ := h
      rw [hr, hM]
      show G _ 75 [some (.ref 72), some (.int pA), some (.int qA), some (.int (nI i)), some (.int (nI j)), some (.int (nI l)), some (.int ((msF (canB p q i j) (fun s => swF M i j l s pA qA) k).1)), some (.int ((msF (canB p q i j) (fun s => swF M i j l s pA qA) k).2)), some (.int (nI k)), none] [.int (bI (canB p q i j k))] M _
      refine g_if_eq (off := 42) (tgt := 117) (by decide +kernel) (by decide) (fun c2 => ?_) (fun c2 => ?_)
      · refine blk 7 [(.iinc 8 1, 0, 0, (nI 1)), (.goto (-60), 60, 0, 0)] [] (by decide +kernel) rfl (pc' := 60) (ls' := [some (.ref 72), some (.int pA), some (.int qA), some (.int (nI i)), some (.int (nI j)), some (.int (nI l)), some (.int ((msF (canB p q i j) (fun s => swF M i j l s pA qA) k).1)), some (.int ((msF (canB p q i j) (fun s => swF M i j l s pA qA) k).2)), some (.int (nI k + nI 1)), none]) (st' := []) (M' := M) rfl ⟨trivial, trivial, trivial⟩ ?_
        have e : (msF (canB p q i j) (fun s => swF M i j l s pA qA) (k + 1)) = (msF (canB p q i j) (fun s => swF M i j l s pA qA) k) := by rw [msF, if_neg (by rw [bI_eq c2]; decide)]
        refine G.sub (ls' := [some (.ref 72), some (.int pA), some (.int qA), some (.int (nI i)), some (.int (nI j)), some (.int (nI l)), some (.int ((msF (canB p q i j) (fun s => swF M i j l s pA qA) (k + 1)).1)), some (.int ((msF (canB p q i j) (fun s => swF M i j l s pA qA) (k + 1)).2)), some (.int (nI (k + 1))), none]) ?_ ⟨rfl, rfl, rfl, rfl, rfl, rfl, congrArg (fun z => some (Value.int z)) (by rw [e]), congrArg (fun z => some (Value.int z)) (by rw [e]), congrArg (fun z => some (Value.int z)) (by simp only [nI_add, nI_s1]), trivial⟩
        exact ih (d - 1) (by omega) (k + 1) (by omega) (by omega)
      · refine blk 7 [(.aload_n 0, 0, 0, 0), (.iload_n 3, 0, 0, 0), (.iload 4, 0, 0, 0), (.iload 5, 0, 0, 0), (.iload 8, 0, 0, 0), (.iload_n 1, 0, 0, 0), (.iload_n 2, 0, 0, 0)] [] (by decide +kernel) rfl (pc' := 88) (ls' := [some (.ref 72), some (.int pA), some (.int qA), some (.int (nI i)), some (.int (nI j)), some (.int (nI l)), some (.int ((msF (canB p q i j) (fun s => swF M i j l s pA qA) k).1)), some (.int ((msF (canB p q i j) (fun s => swF M i j l s pA qA) k).2)), some (.int (nI k)), none]) (st' := [.int qA, .int pA, .int (nI k), .int (nI l), .int (nI j), .int (nI i), .ref 72]) (M' := M) rfl ⟨trivial, trivial, trivial, trivial, trivial, trivial, trivial, trivial⟩ ?_
        refine g_callV (s_sw M (p := p) (q := q) (i := i) (j := j) (l := l) (s := k) pA qA hm.2.2.1 hm.2.2.2 hi hj (by omega) (by omega) (bI_ne c2)) ok_X7_merge_X7_stepWorth (by decide +kernel) rfl (c := 7) rfl (by decide) rfl (Nat.le_of_ble_eq_true rfl) (fun r M' h => ?_) rfl
        obtain ⟨hr, hM⟩ := h
        rw [hr, hM]
        show G _ 91 [some (.ref 72), some (.int pA), some (.int qA), some (.int (nI i)), some (.int (nI j)), some (.int (nI l)), some (.int ((msF (canB p q i j) (fun s => swF M i j l s pA qA) k).1)), some (.int ((msF (canB p q i j) (fun s => swF M i j l s pA qA) k).2)), some (.int (nI k)), none] [.int (swF M i j l k pA qA)] M _
        refine blk 7 [(.istore 9, 0, 0, 0), (.iload 6, 0, 0, 0)] [] (by decide +kernel) rfl (pc' := 95) (ls' := [some (.ref 72), some (.int pA), some (.int qA), some (.int (nI i)), some (.int (nI j)), some (.int (nI l)), some (.int ((msF (canB p q i j) (fun s => swF M i j l s pA qA) k).1)), some (.int ((msF (canB p q i j) (fun s => swF M i j l s pA qA) k).2)), some (.int (nI k)), some (.int (swF M i j l k pA qA))]) (st' := [.int ((msF (canB p q i j) (fun s => swF M i j l s pA qA) k).1)]) (M' := M) rfl ⟨trivial, trivial, trivial⟩ ?_
        refine g_if_eq (off := 15) (tgt := 110) (by decide +kernel) (by decide) (fun c3 => ?_) (fun c3 => ?_)
        · refine blk 7 [(.iload 9, 0, 0, 0), (.istore 7, 0, 0, 0), (.iconst 1, 0, 0, (nI 1)), (.istore 6, 0, 0, 0), (.iinc 8 1, 0, 0, (nI 1)), (.goto (-60), 60, 0, 0)] [] (by decide +kernel) rfl (pc' := 60) (ls' := [some (.ref 72), some (.int pA), some (.int qA), some (.int (nI i)), some (.int (nI j)), some (.int (nI l)), some (.int (nI 1)), some (.int (swF M i j l k pA qA)), some (.int (nI k + nI 1)), some (.int (swF M i j l k pA qA))]) (st' := []) (M' := M) rfl ⟨trivial, trivial, trivial, trivial, trivial, trivial, trivial⟩ ?_
          have e : (msF (canB p q i j) (fun s => swF M i j l s pA qA) (k + 1)) = (nI 1, swF M i j l k pA qA) := by rw [msF, if_pos (bI_ne c2), if_neg (by exact fun z => z.1 c3)]
          refine G.sub (ls' := [some (.ref 72), some (.int pA), some (.int qA), some (.int (nI i)), some (.int (nI j)), some (.int (nI l)), some (.int ((msF (canB p q i j) (fun s => swF M i j l s pA qA) (k + 1)).1)), some (.int ((msF (canB p q i j) (fun s => swF M i j l s pA qA) (k + 1)).2)), some (.int (nI (k + 1))), none]) ?_ ⟨rfl, rfl, rfl, rfl, rfl, rfl, congrArg (fun z => some (Value.int z)) (by rw [e]), congrArg (fun z => some (Value.int z)) (by rw [e]), congrArg (fun z => some (Value.int z)) (by simp only [nI_add, nI_s1]), trivial⟩
          exact ih (d - 1) (by omega) (k + 1) (by omega) (by omega)
        · refine blk 7 [(.iload 7, 0, 0, 0), (.iload 9, 0, 0, 0)] [] (by decide +kernel) rfl (pc' := 102) (ls' := [some (.ref 72), some (.int pA), some (.int qA), some (.int (nI i)), some (.int (nI j)), some (.int (nI l)), some (.int ((msF (canB p q i j) (fun s => swF M i j l s pA qA) k).1)), some (.int ((msF (canB p q i j) (fun s => swF M i j l s pA qA) k).2)), some (.int (nI k)), some (.int (swF M i j l k pA qA))]) (st' := [.int (swF M i j l k pA qA), .int ((msF (canB p q i j) (fun s => swF M i j l s pA qA) k).2)]) (M' := M) rfl ⟨trivial, trivial, trivial⟩ ?_
          refine g_icmp_lt (off := 8) (tgt := 110) (by decide +kernel) (by decide) (fun c4 => ?_) (fun c4 => ?_)
          · refine blk 7 [(.iload 9, 0, 0, 0), (.istore 7, 0, 0, 0), (.iconst 1, 0, 0, (nI 1)), (.istore 6, 0, 0, 0), (.iinc 8 1, 0, 0, (nI 1)), (.goto (-60), 60, 0, 0)] [] (by decide +kernel) rfl (pc' := 60) (ls' := [some (.ref 72), some (.int pA), some (.int qA), some (.int (nI i)), some (.int (nI j)), some (.int (nI l)), some (.int (nI 1)), some (.int (swF M i j l k pA qA)), some (.int (nI k + nI 1)), some (.int (swF M i j l k pA qA))]) (st' := []) (M' := M) rfl ⟨trivial, trivial, trivial, trivial, trivial, trivial, trivial⟩ ?_
            have e : (msF (canB p q i j) (fun s => swF M i j l s pA qA) (k + 1)) = (nI 1, swF M i j l k pA qA) := by rw [msF, if_pos (bI_ne c2), if_neg (by exact fun z => z.2 c4)]
            refine G.sub (ls' := [some (.ref 72), some (.int pA), some (.int qA), some (.int (nI i)), some (.int (nI j)), some (.int (nI l)), some (.int ((msF (canB p q i j) (fun s => swF M i j l s pA qA) (k + 1)).1)), some (.int ((msF (canB p q i j) (fun s => swF M i j l s pA qA) (k + 1)).2)), some (.int (nI (k + 1))), none]) ?_ ⟨rfl, rfl, rfl, rfl, rfl, rfl, congrArg (fun z => some (Value.int z)) (by rw [e]), congrArg (fun z => some (Value.int z)) (by rw [e]), congrArg (fun z => some (Value.int z)) (by simp only [nI_add, nI_s1]), trivial⟩
            exact ih (d - 1) (by omega) (k + 1) (by omega) (by omega)
          · refine blk 7 [(.iload 7, 0, 0, 0), (.goto (5), 112, 0, 0), (.istore 7, 0, 0, 0), (.iconst 1, 0, 0, (nI 1)), (.istore 6, 0, 0, 0), (.iinc 8 1, 0, 0, (nI 1)), (.goto (-60), 60, 0, 0)] [] (by decide +kernel) rfl (pc' := 60) (ls' := [some (.ref 72), some (.int pA), some (.int qA), some (.int (nI i)), some (.int (nI j)), some (.int (nI l)), some (.int (nI 1)), some (.int ((msF (canB p q i j) (fun s => swF M i j l s pA qA) k).2)), some (.int (nI k + nI 1)), some (.int (swF M i j l k pA qA))]) (st' := []) (M' := M) rfl ⟨trivial, trivial, trivial, trivial, trivial, trivial, trivial, trivial⟩ ?_
            have e : (msF (canB p q i j) (fun s => swF M i j l s pA qA) (k + 1)) = (nI 1, (msF (canB p q i j) (fun s => swF M i j l s pA qA) k).2) := by rw [msF, if_pos (bI_ne c2), if_pos ⟨c3, c4⟩]
            refine G.sub (ls' := [some (.ref 72), some (.int pA), some (.int qA), some (.int (nI i)), some (.int (nI j)), some (.int (nI l)), some (.int ((msF (canB p q i j) (fun s => swF M i j l s pA qA) (k + 1)).1)), some (.int ((msF (canB p q i j) (fun s => swF M i j l s pA qA) (k + 1)).2)), some (.int (nI (k + 1))), none]) ?_ ⟨rfl, rfl, rfl, rfl, rfl, rfl, congrArg (fun z => some (Value.int z)) (by rw [e]), congrArg (fun z => some (Value.int z)) (by rw [e]), congrArg (fun z => some (Value.int z)) (by simp only [nI_add, nI_s1]), trivial⟩
            exact ih (d - 1) (by omega) (k + 1) (by omega) (by omega)
theorem l_last {M : Mem} {p q i j : Nat} {pA qA : Int32} {Post : Option Value → Mem → Prop} (hm : mgr M p q) (hi : i ≤ p) (hj : j ≤ q) (hp : ∀ N, mfP M N p q pA qA i j 3 → G mX7_merge 145 [some (.ref 72), some (.int pA), some (.int qA), some (.int (nI i)), some (.int (nI j)), none, none, none, none, none] [] N Post) : ∀ d l N, d = 3 - l → l ≤ 3 → (∀ a, a < l → N 40 (3 * (61 * i + j) + a) = mdp M p q pA qA i j a) → (∀ k, (∀ a, a < 3 → k ≠ 3 * (61 * i + j) + a) → N 40 k = M 40 k) → (∀ z, z ≠ 40 → N z = M z) → G mX7_merge 45 [some (.ref 72), some (.int pA), some (.int qA), some (.int (nI i)), some (.int (nI j)), some (.int (nI l)), none, none, none, none] [] N Post := by
  have ⟨m1, m2, m3, m4⟩ := hm
  intro d
  induction d using Nat.strongRecOn with
  | ind d ih =>
    intro l N hd hl f1 f2 f3
    have hmN : mgr N p q := by unfold mgr; rw [f3 72 (by decide)]; exact hm
    refine blk 7 [(.iload 5, 0, 0, 0), (.iconst 3, 0, 0, (nI 3))] [] (by decide +kernel) rfl (pc' := 48) (ls' := [some (.ref 72), some (.int pA), some (.int qA), some (.int (nI i)), some (.int (nI j)), some (.int (nI l)), none, none, none, none]) (st' := [.int (nI 3), .int (nI l)]) (M' := N) rfl ⟨trivial, trivial, trivial⟩ ?_
    refine g_icmp_ge (off := 97) (tgt := 145) (by decide +kernel) (by decide) (fun c1 => ?_) (fun c1 => ?_)
    · have nc1 : 3 ≤ l := (nI_leI (by omega) (by omega)).mp (by simpa only [nI_add, pk_mul, nI_s1, n0_lit] using c1)
      have e : l = 3 := by omega
      subst e
      refine G.sub (ls' := [some (.ref 72), some (.int pA), some (.int qA), some (.int (nI i)), some (.int (nI j)), none, none, none, none, none]) ?_ ⟨rfl, rfl, rfl, rfl, rfl, trivial⟩
      exact hp N ⟨f1, f2, f3⟩
    · have nc1 : l < 3 := by
        have z : ¬ nI 3 ≤ nI l := by simpa only [nI_add, pk_mul, nI_s1, n0_lit] using c1
        rw [nI_leI (by omega) (by omega)] at z
        omega
      refine blk 7 [(.iconst 0, 0, 0, (nI 0)), (.istore 6, 0, 0, 0), (.iconst 0, 0, 0, (nI 0)), (.istore 7, 0, 0, 0), (.iconst 0, 0, 0, (nI 0)), (.istore 8, 0, 0, 0)] [] (by decide +kernel) rfl (pc' := 60) (ls' := [some (.ref 72), some (.int pA), some (.int qA), some (.int (nI i)), some (.int (nI j)), some (.int (nI l)), some (.int (nI 0)), some (.int (nI 0)), some (.int (nI 0)), none]) (st' := []) (M' := N) rfl ⟨trivial, trivial, trivial, trivial, trivial, trivial, trivial⟩ ?_
      refine l_ms (M := N) hmN hi hj (by omega) ?_ _ 0 rfl (by omega)
      rw [show mdp N p q pA qA i j l = mdp M p q pA qA i j l from mdp_keep f3 (fun _ _ => f2 _ (fun a ha => by omega)) (fun _ => f2 _ (fun a ha => by omega)) (fun _ => f2 _ (fun a ha => by omega))]
      refine blk 7 [(.aload_n 0, 0, 0, 0), (.getfield 83, 7, 36, 0), (.aload_n 0, 0, 0, 0), (.iload_n 3, 0, 0, 0), (.iload 4, 0, 0, 0), (.iload 5, 0, 0, 0)] [] (by decide +kernel) rfl (pc' := 133) (ls' := [some (.ref 72), some (.int pA), some (.int qA), some (.int (nI i)), some (.int (nI j)), some (.int (nI l)), none, some (.int (mdp M p q pA qA i j l)), none, none]) (st' := [.int (nI l), .int (nI j), .int (nI i), .ref 72, .ref 40]) (M' := N) rfl ⟨trivial, rfl, trivial, trivial, trivial, trivial, trivial⟩ ?_
      refine g_callV (s_entry N _ _ _) ok_X7_merge_X7_entry (by decide +kernel) rfl (c := 7) rfl (by decide) rfl (Nat.le_of_ble_eq_true rfl) (fun r M' h => ?_) rfl
      obtain ⟨hr, hM⟩ := h
      rw [hr, hM]
      show G _ 136 [some (.ref 72), some (.int pA), some (.int qA), some (.int (nI i)), some (.int (nI j)), some (.int (nI l)), none, some (.int (mdp M p q pA qA i j l)), none, none] [.int (nI 3 * (nI 61 * (nI i) + (nI j)) + (nI l)), .ref 40] N _
      refine blk 7 [(.iload 7, 0, 0, 0), (.iastore, 0, 0, 0), (.iinc 5 1, 0, 0, (nI 1)), (.goto (-97), 45, 0, 0)] [3 * (61 * i + j) + l] (by decide +kernel) rfl (pc' := 45) (ls' := [some (.ref 72), some (.int pA), some (.int qA), some (.int (nI i)), some (.int (nI j)), some (.int (nI l + nI 1)), none, some (.int (mdp M p q pA qA i j l)), none, none]) (st' := []) (M' := stm N 40 (3 * (61 * i + j) + l) (mdp M p q pA qA i j l)) rfl ⟨trivial, ⟨(by simp only [nI_add, pk_mul, nI_s1, Nat.reduceAdd, Nat.reduceMul]), (by show _ < 11163; omega), by decide⟩, trivial, trivial, trivial⟩ ?_
      refine G.sub (ls' := [some (.ref 72), some (.int pA), some (.int qA), some (.int (nI i)), some (.int (nI j)), some (.int (nI (l + 1))), none, none, none, none]) ?_ ⟨rfl, rfl, rfl, rfl, rfl, congrArg (fun z => some (Value.int z)) (by simp only [nI_add, nI_s1]), trivial⟩
      refine ih (d - 1) (by omega) (l + 1) _ (by omega) (by omega) (fun a ha => ?_) (fun k hk => ?_) (fun z hz => by rw [stm_ne hz]; exact f3 z hz)
      · by_cases e : a = l
        · subst e; rw [stm_self]
        · rw [stm_off (by omega)]; exact f1 a (by omega)
      · rw [stm_off (hk l (by omega))]; exact f2 k hk
def tbm (M : Mem) (p q : Nat) (pA qA : Int32) (D : Nat → Nat → Prop) : Prop := ∀ i j l, i ≤ p → j ≤ q → l < 3 → D i j → M 40 (3 * (61 * i + j) + l) = mdp M p q pA qA i j l
theorem tbm_mono {M : Mem} {p q : Nat} {pA qA : Int32} {D E : Nat → Nat → Prop} (h : tbm M p q pA qA D) (hE : ∀ i j, i ≤ p → j ≤ q → E i j → D i j) : tbm M p q pA qA E := fun i j l hi hj hl he => h i j l hi hj hl (hE i j hi hj he)
theorem mdp_keep2 {M N : Mem} {p q i j i0 j0 l : Nat} {pA qA : Int32} (hN : mfP M N p q pA qA i0 j0 3) (hq : q ≤ 60) (hj : j ≤ q) (hj0 : j0 ≤ q) (h : i0 < i ∨ (i = i0 ∧ j0 ≤ j)) : mdp N p q pA qA i j l = mdp M p q pA qA i j l :=
  mdp_keep hN.2.2 (fun _ _ => hN.2.1 _ (fun a ha => by omega)) (fun _ => hN.2.1 _ (fun a ha => by omega)) (fun _ => hN.2.1 _ (fun a ha => by omega))
theorem tbm_step {M N : Mem} {p q i0 j0 : Nat} {pA qA : Int32} {D : Nat → Nat → Prop} (hN : mfP M N p q pA qA i0 j0 3) (hq : q ≤ 60) (hj0 : j0 ≤ q) (hD : ∀ i j, D i j → i0 < i ∨ (i = i0 ∧ j0 < j)) (h : tbm M p q pA qA D) : tbm N p q pA qA (fun i j => D i j ∨ (i = i0 ∧ j = j0)) := by
  intro i j l hi hj hl hd
  rcases hd with hd | ⟨rfl, rfl⟩
  · have hlt := hD i j hd
    rw [mdp_keep2 hN hq hj hj0 (by omega), ← h i j l hi hj hl hd]
    exact hN.2.1 _ (fun a ha => by omega)
  · rw [mdp_keep2 hN hq hj hj0 (by omega)]
    exact hN.1 l hl
def keepM (R T : Mem) : Prop := ∀ z, z ≠ 40 → T z = R z
theorem l_mj {R : Mem} {p q i : Nat} {pA qA : Int32} {Post : Option Value → Mem → Prop} (hm : mgr R p q) (hi : i ≤ p) (hp : ∀ M, keepM R M → tbm M p q pA qA (fun a c => i < a ∨ (a = i ∧ 0 ≤ c)) → G mX7_merge 151 [some (.ref 72), some (.int pA), some (.int qA), some (.int (nI i)), none, none, none, none, none, none] [] M Post) : ∀ b M, b ≤ q + 1 → keepM R M → tbm M p q pA qA (fun a c => i < a ∨ (a = i ∧ b ≤ c)) → G mX7_merge 37 [some (.ref 72), some (.int pA), some (.int qA), some (.int (nI i)), some (.int (nI b - nI 1)), none, none, none, none, none] [] M Post := by
  have ⟨m1, m2, m3, m4⟩ := hm
  intro b
  induction b with
  | zero =>
    intro M hb i1 i2
    refine blk 7 [(.iload 4, 0, 0, 0)] [] (by decide +kernel) rfl (pc' := 39) (ls' := [some (.ref 72), some (.int pA), some (.int qA), some (.int (nI i)), some (.int (nI 0 - nI 1)), none, none, none, none, none]) (st' := [.int (nI 0 - nI 1)]) (M' := M) rfl ⟨trivial, trivial⟩ ?_
    refine g_if_lt (off := 112) (tgt := 151) (by decide +kernel) (by decide) (fun c1 => ?_) (fun c1 => ?_)
    · refine G.sub (ls' := [some (.ref 72), some (.int pA), some (.int qA), some (.int (nI i)), none, none, none, none, none, none]) ?_ ⟨rfl, rfl, rfl, rfl, trivial⟩
      exact hp M i1 (tbm_mono i2 (fun a c _ _ h => by rcases h with h | h; exact Or.inl h; exact Or.inr ⟨h.1, by omega⟩))
    · exact absurd (by decide) c1
  | succ b ih =>
    intro M hb i1 i2
    have hmM : mgr M p q := by unfold mgr; rw [i1 72 (by decide)]; exact hm
    refine blk 7 [(.iload 4, 0, 0, 0)] [] (by decide +kernel) rfl (pc' := 39) (ls' := [some (.ref 72), some (.int pA), some (.int qA), some (.int (nI i)), some (.int (nI (b + 1) - nI 1)), none, none, none, none, none]) (st' := [.int (nI (b + 1) - nI 1)]) (M' := M) rfl ⟨trivial, trivial⟩ ?_
    refine g_if_lt (off := 112) (tgt := 151) (by decide +kernel) (by decide) (fun c1 => ?_) (fun c1 => ?_)
    · have nc1 : b < 0 := (nI_ltI (by omega) (by omega)).mp (by simpa only [nI_add, pk_mul, nI_s1, n0_lit] using c1)
      exact absurd (nI_s1 b ▸ c1) (nI_pos (by have := m4; omega))
    · have nc1 : 0 ≤ b := by
        have z : ¬ nI b < nI 0 := by simpa only [nI_add, pk_mul, nI_s1, n0_lit] using c1
        rw [nI_ltI (by omega) (by omega)] at z
        omega
      refine blk 7 [(.iconst 0, 0, 0, (nI 0)), (.istore 5, 0, 0, 0)] [] (by decide +kernel) rfl (pc' := 45) (ls' := [some (.ref 72), some (.int pA), some (.int qA), some (.int (nI i)), some (.int (nI (b + 1) - nI 1)), some (.int (nI 0)), none, none, none, none]) (st' := []) (M' := M) rfl ⟨trivial, trivial, trivial⟩ ?_
      rw [nI_s1]
      refine G.sub (ls' := [some (.ref 72), some (.int pA), some (.int qA), some (.int (nI i)), some (.int (nI b)), some (.int (nI 0)), none, none, none, none]) ?_ ⟨rfl, rfl, rfl, rfl, rfl, rfl, trivial⟩
      refine l_last (M := M) hmM hi (by omega) (fun N hf => ?_) _ 0 M rfl (by omega) (fun a h => absurd h (by omega)) (fun _ _ => rfl) (fun _ _ => rfl)
      refine blk 7 [(.iinc 4 (-1), 0, 0, (-1)), (.goto (-111), 37, 0, 0)] [] (by decide +kernel) rfl (pc' := 37) (ls' := [some (.ref 72), some (.int pA), some (.int qA), some (.int (nI i)), some (.int (nI b + (-1))), none, none, none, none, none]) (st' := []) (M' := N) rfl ⟨trivial, trivial, trivial⟩ ?_
      refine G.sub (ls' := [some (.ref 72), some (.int pA), some (.int qA), some (.int (nI i)), some (.int (nI b - nI 1)), none, none, none, none, none]) ?_ ⟨rfl, rfl, rfl, rfl, congrArg (fun z => some (Value.int z)) (dec1 _), trivial⟩
      refine ih N (by omega) (fun z hz => (hf.2.2 z hz).trans (i1 z hz)) ?_
      refine tbm_mono (tbm_step hf m4 (by omega) (fun a c h => ?_) i2) (fun a c _ _ h => ?_)
      · rcases h with h | h
        · exact Or.inl h
        · exact Or.inr ⟨h.1, by omega⟩
      · rcases h with h | h
        · exact Or.inl (Or.inl h)
        · by_cases e : c = b
          · exact Or.inr ⟨h.1, e⟩
          · exact Or.inl (Or.inr ⟨h.1, by omega⟩)
theorem l_mi {R : Mem} {p q : Nat} {pA qA : Int32} {Post : Option Value → Mem → Prop} (hm : mgr R p q) (hp : ∀ M, keepM R M → tbm M p q pA qA (fun _ _ => True) → G mX7_merge 157 [some (.ref 72), some (.int pA), some (.int qA), none, none, none, none, none, none, none] [] M Post) : ∀ a M, a ≤ p + 1 → keepM R M → tbm M p q pA qA (fun c _ => a ≤ c) → G mX7_merge 27 [some (.ref 72), some (.int pA), some (.int qA), some (.int (nI a - nI 1)), none, none, none, none, none, none] [] M Post := by
  have ⟨m1, m2, m3, m4⟩ := hm
  intro a
  induction a with
  | zero =>
    intro M hb i1 i2
    refine blk 7 [(.iload_n 3, 0, 0, 0)] [] (by decide +kernel) rfl (pc' := 28) (ls' := [some (.ref 72), some (.int pA), some (.int qA), some (.int (nI 0 - nI 1)), none, none, none, none, none, none]) (st' := [.int (nI 0 - nI 1)]) (M' := M) rfl ⟨trivial, trivial⟩ ?_
    refine g_if_lt (off := 129) (tgt := 157) (by decide +kernel) (by decide) (fun c1 => ?_) (fun c1 => ?_)
    · refine G.sub (ls' := [some (.ref 72), some (.int pA), some (.int qA), none, none, none, none, none, none, none]) ?_ ⟨rfl, rfl, rfl, trivial⟩
      exact hp M i1 (tbm_mono i2 (fun a c _ _ _ => by omega))
    · exact absurd (by decide) c1
  | succ a ih =>
    intro M hb i1 i2
    have hmM : mgr M p q := by unfold mgr; rw [i1 72 (by decide)]; exact hm
    refine blk 7 [(.iload_n 3, 0, 0, 0)] [] (by decide +kernel) rfl (pc' := 28) (ls' := [some (.ref 72), some (.int pA), some (.int qA), some (.int (nI (a + 1) - nI 1)), none, none, none, none, none, none]) (st' := [.int (nI (a + 1) - nI 1)]) (M' := M) rfl ⟨trivial, trivial⟩ ?_
    refine g_if_lt (off := 129) (tgt := 157) (by decide +kernel) (by decide) (fun c1 => ?_) (fun c1 => ?_)
    · have nc1 : a < 0 := (nI_ltI (by omega) (by omega)).mp (by simpa only [nI_add, pk_mul, nI_s1, n0_lit] using c1)
      exact absurd (nI_s1 a ▸ c1) (nI_pos (by have := m3; omega))
    · have nc1 : 0 ≤ a := by
        have z : ¬ nI a < nI 0 := by simpa only [nI_add, pk_mul, nI_s1, n0_lit] using c1
        rw [nI_ltI (by omega) (by omega)] at z
        omega
      refine blk 7 [(.aload_n 0, 0, 0, 0), (.getfield 127, 7, 28, 0), (.istore 4, 0, 0, 0)] [] (by decide +kernel) rfl (pc' := 37) (ls' := [some (.ref 72), some (.int pA), some (.int qA), some (.int (nI (a + 1) - nI 1)), some (.int (M 72 28)), none, none, none, none, none]) (st' := []) (M' := M) rfl ⟨trivial, rfl, trivial, trivial⟩ ?_
      refine G.sub (ls' := [some (.ref 72), some (.int pA), some (.int qA), some (.int (nI a)), some (.int (nI (q + 1) - nI 1)), none, none, none, none, none]) ?_ ⟨rfl, rfl, rfl, congrArg (fun z => some (Value.int z)) (nI_s1 a), congrArg (fun z => some (Value.int z)) (hmM.2.1.trans (nI_s1 q).symm), trivial⟩
      refine l_mj hm (by omega) (fun N k1 k2 => ?_) (q + 1) M (Nat.le_refl _) i1 (tbm_mono i2 (fun c d _ hd h => by rcases h with h | h; exact (by omega); exact absurd h.2 (by omega)))
      refine blk 7 [(.iinc 3 (-1), 0, 0, (-1)), (.goto (-127), 27, 0, 0)] [] (by decide +kernel) rfl (pc' := 27) (ls' := [some (.ref 72), some (.int pA), some (.int qA), some (.int (nI a + (-1))), none, none, none, none, none, none]) (st' := []) (M' := N) rfl ⟨trivial, trivial, trivial⟩ ?_
      refine G.sub (ls' := [some (.ref 72), some (.int pA), some (.int qA), some (.int (nI a - nI 1)), none, none, none, none, none, none]) ?_ ⟨rfl, rfl, rfl, congrArg (fun z => some (Value.int z)) (dec1 _), trivial⟩
      exact ih N (by omega) k1 (tbm_mono k2 (fun c d _ _ h => by rcases Nat.lt_or_ge a c with z | z; exact Or.inl z; exact Or.inr ⟨by omega, by omega⟩))
end
section
/-! the reference: walk, merge -/
/-- is s a step that can be taken and that is worth what the table says? -/
def prB (M : Mem) (p q : Nat) (pA qA : Int32) (i j l : Nat) : Nat → Bool := fun s => canB p q i j s && decide (swF M i j l s pA qA = M 40 (3 * (61 * i + j) + l))
def mch (M : Mem) (p q : Nat) (pA qA : Int32) (i j l : Nat) : Nat := if prB M p q pA qA i j l 0 then 0 else if prB M p q pA qA i j l 1 then 1 else 2
def mst (M : Mem) (p q : Nat) (pA qA : Int32) : Nat → Nat × Nat × Nat
  | 0 => (0, 0, 0)
  | n + 1 => ((mst M p q pA qA n).1 + (if mch M p q pA qA (mst M p q pA qA n).1 (mst M p q pA qA n).2.1 (mst M p q pA qA n).2.2 = 2 then 0 else 1), (mst M p q pA qA n).2.1 + (if mch M p q pA qA (mst M p q pA qA n).1 (mst M p q pA qA n).2.1 (mst M p q pA qA n).2.2 = 1 then 0 else 1), mch M p q pA qA (mst M p q pA qA n).1 (mst M p q pA qA n).2.1 (mst M p q pA qA n).2.2)
def mOK (M : Mem) (p q : Nat) (pA qA : Int32) : Prop := ∀ i j l, i ≤ p → j ≤ q → (i < p ∨ j < q) → l ≤ 2 → prB M p q pA qA i j l (mch M p q pA qA i j l) = true
theorem msF_att {can : Nat → Bool} {v : Nat → Int32} {n : Nat} (h : ∃ k, k < n ∧ can k = true) : ∃ k, k < n ∧ can k = true ∧ (msF can v n).2 = v k := by
  induction n with
  | zero => obtain ⟨k, h1, _⟩ := h; omega
  | succ n ih =>
    rw [msF]
    by_cases c : can n = true
    · rw [if_pos c]
      show ∃ k, k < n + 1 ∧ can k = true ∧ (if ¬ (msF can v n).1 = 0 ∧ ¬ (msF can v n).2 < v n then (msF can v n).2 else v n) = v k
      by_cases e : ¬ (msF can v n).1 = 0 ∧ ¬ (msF can v n).2 < v n
      · rw [if_pos e]
        have h2 : ∃ k, k < n ∧ can k = true := by
          apply Classical.byContradiction
          intro hn
          have : ∀ m, m ≤ n → (msF can v m).1 = nI 0 := by
            intro m
            induction m with
            | zero => intro _; rfl
            | succ m im =>
              intro hm
              rw [msF, if_neg (fun z => hn ⟨m, by omega, z⟩)]
              exact im (by omega)
          exact e.1 ((this n (Nat.le_refl n)).trans nI_0)
        obtain ⟨k, h3, h4, h5⟩ := ih h2
        exact ⟨k, by omega, h4, h5⟩
      · rw [if_neg e]; exact ⟨n, by omega, c, rfl⟩
    · rw [if_neg c]
      obtain ⟨k, h1, h2⟩ := h
      obtain ⟨k, h3, h4, h5⟩ := ih ⟨k, by rcases Nat.lt_or_ge k n with z | z; exact z; exact absurd (show k = n by omega ▸ h2) (by rw [show k = n by omega] at h2; exact absurd h2 c), h2⟩
      exact ⟨k, by omega, h4, h5⟩
theorem tbm_ok {M : Mem} {p q : Nat} {pA qA : Int32} (ht : tbm M p q pA qA (fun _ _ => True)) : mOK M p q pA qA := by
  intro i j l hi hj ha hl
  have e := ht i j l hi hj (by omega) trivial
  obtain ⟨k, k1, k2, k3⟩ := msF_att (can := canB p q i j) (v := fun s => swF M i j l s pA qA) (n := 3) (by
    rcases ha with h | h
    · exact ⟨1, by decide, by unfold canB; simp [h]⟩
    · exact ⟨2, by decide, by unfold canB; simp [h]⟩)
  have hk : prB M p q pA qA i j l k = true := by
    unfold prB
    rw [k2, Bool.true_and, decide_eq_true_eq, e]
    exact k3.symm
  unfold mch
  by_cases c0 : prB M p q pA qA i j l 0 = true
  · rw [if_pos c0]; exact c0
  · rw [if_neg c0]
    by_cases c1 : prB M p q pA qA i j l 1 = true
    · rw [if_pos c1]; exact c1
    · rw [if_neg c1]
      rcases (show k = 0 ∨ k = 1 ∨ k = 2 by omega) with rfl | rfl | rfl
      · exact absurd hk c0
      · exact absurd hk c1
      · exact hk
theorem mch_le (M : Mem) (p q : Nat) (pA qA : Int32) (i j l : Nat) : mch M p q pA qA i j l ≤ 2 := by unfold mch; split <;> (try split) <;> omega
theorem mch_is {M : Mem} {p q : Nat} {pA qA : Int32} {i j l s : Nat} (hs : s ≤ 2) (h : prB M p q pA qA i j l s = true) (hn : ∀ a, a < s → prB M p q pA qA i j l a = false) : mch M p q pA qA i j l = s := by
  unfold mch
  rcases (show s = 0 ∨ s = 1 ∨ s = 2 by omega) with rfl | rfl | rfl
  · rw [if_pos h]
  · rw [if_neg (by rw [hn 0 (by omega)]; decide), if_pos h]
  · rw [if_neg (by rw [hn 0 (by omega)]; decide), if_neg (by rw [hn 1 (by omega)]; decide)]
/-- a cell of the merged group -/
def mcv (M : Mem) (i j s w : Nat) : Int32 := if ¬ hb (M 72 25) w = 0 ∧ s ≠ 2 then M 90 (60 * w + i) else if ¬ hb (M 72 26) w = 0 ∧ s ≠ 1 then M 91 (60 * w + j) else -1
def keepW (M N : Mem) : Prop := (∀ z, z ≠ 72 → z ≠ 92 → N z = M z) ∧ ∀ f, f ≠ 31 → N 72 f = M 72 f
def mwalkP (M : Mem) (p q : Nat) (pA qA : Int32) : Option Value → Mem → Prop := fun r N => r = none ∧ ∃ n, n ≤ p + q ∧ (mst M p q pA qA n).1 = p ∧ (mst M p q pA qA n).2.1 = q ∧ (∀ k, k < n → ((mst M p q pA qA k).1 ≤ p ∧ (mst M p q pA qA k).2.1 ≤ q ∧ ((mst M p q pA qA k).1 < p ∨ (mst M p q pA qA k).2.1 < q))) ∧ N 72 31 = nI n ∧ (∀ k w, k < n → w < 5 → N 92 (60 * w + k) = mcv M (mst M p q pA qA k).1 (mst M p q pA qA k).2.1 (mst M p q pA qA (k + 1)).2.2 w) ∧ keepW M N
theorem sw_keep {M N : Mem} {i j l s : Nat} {pA qA : Int32} (h : keepW M N) : swF N i j l s pA qA = swF M i j l s pA qA := by
  unfold swF
  rw [h.1 93 (by decide) (by decide), h.1 40 (by decide) (by decide), h.2 6 (by decide), h.2 7 (by decide), h.1 94 (by decide) (by decide), h.1 95 (by decide) (by decide)]
theorem l_mw1 {M N : Mem} {p q i j l : Nat} {pA qA : Int32} {Post : Option Value → Mem → Prop} (hm : mgr M p q) (hk : keepW M N) (hi : i ≤ p) (hj : j ≤ q) (hl : l ≤ 2) (hok : prB M p q pA qA i j l (mch M p q pA qA i j l) = true) (hp : G mX7_walk 81 [some (.ref 72), some (.int pA), some (.int qA), some (.int (nI i)), some (.int (nI j)), some (.int (nI l)), some (.int (nI (mch M p q pA qA i j l))), none, none, none] [] N Post) : ∀ d s, d = 3 - s → s ≤ 2 → (∀ a, a < s → prB M p q pA qA i j l a = false) → G mX7_walk 33 [some (.ref 72), some (.int pA), some (.int qA), some (.int (nI i)), some (.int (nI j)), some (.int (nI l)), some (.int (nI s)), none, none, none] [] N Post := by
  have ⟨m1, m2, m3, m4⟩ := hm
  have n1 : N 72 27 = nI p := by rw [hk.2 27 (by decide)]; exact m1
  have n2 : N 72 28 = nI q := by rw [hk.2 28 (by decide)]; exact m2
  intro d
  induction d using Nat.strongRecOn with
  | ind d ih =>
    intro s hd hs hn
    refine blk 7 [(.aload_n 0, 0, 0, 0), (.iload_n 3, 0, 0, 0), (.iload 4, 0, 0, 0), (.iload 6, 0, 0, 0)] [] (by decide +kernel) rfl (pc' := 39) (ls' := [some (.ref 72), some (.int pA), some (.int qA), some (.int (nI i)), some (.int (nI j)), some (.int (nI l)), some (.int (nI s)), none, none, none]) (st' := [.int (nI s), .int (nI j), .int (nI i), .ref 72]) (M' := N) rfl ⟨trivial, trivial, trivial, trivial, trivial⟩ ?_
    refine g_callV (s_can N (p := p) (q := q) (i := i) (j := j) (s := s) n1 n2 m3 m4 (by omega) (by omega) (by omega)) ok_X7_walk_X7_canStep (by decide +kernel) rfl (c := 7) rfl (by decide) rfl (Nat.le_of_ble_eq_true rfl) (fun r M' h => ?_) rfl
    obtain ⟨hr, hM⟩ := h
    rw [hr, hM]
    show G _ 42 [some (.ref 72), some (.int pA), some (.int qA), some (.int (nI i)), some (.int (nI j)), some (.int (nI l)), some (.int (nI s)), none, none, none] [.int (bI (canB p q i j s))] N _
    refine g_if_eq (off := 33) (tgt := 75) (by decide +kernel) (by decide) (fun c1 => ?_) (fun c1 => ?_)
    · refine blk 7 [(.iinc 6 1, 0, 0, (nI 1)), (.goto (-45), 33, 0, 0)] [] (by decide +kernel) rfl (pc' := 33) (ls' := [some (.ref 72), some (.int pA), some (.int qA), some (.int (nI i)), some (.int (nI j)), some (.int (nI l)), some (.int (nI s + nI 1)), none, none, none]) (st' := []) (M' := N) rfl ⟨trivial, trivial, trivial⟩ ?_
      have hps : prB M p q pA qA i j l s = false := by
        unfold prB; rw [bI_eq c1, Bool.false_and]
      have hlt : s < mch M p q pA qA i j l := by
        rcases Nat.lt_or_ge s (mch M p q pA qA i j l) with z | z
        · exact z
        · have hok := hok
          rcases Nat.lt_or_ge (mch M p q pA qA i j l) s with y | y
          · rw [hn _ y] at hok; cases hok
          · rw [show mch M p q pA qA i j l = s by omega, hps] at hok; cases hok
      have hle := mch_le M p q pA qA i j l
      refine G.sub (ls' := [some (.ref 72), some (.int pA), some (.int qA), some (.int (nI i)), some (.int (nI j)), some (.int (nI l)), some (.int (nI (s + 1))), none, none, none]) ?_ ⟨rfl, rfl, rfl, rfl, rfl, rfl, congrArg (fun z => some (Value.int z)) (by simp only [nI_add, nI_s1]), trivial⟩
      exact ih (d - 1) (by omega) (s + 1) (by omega) (by omega) (fun a ha => by rcases Nat.lt_or_ge a s with z | z; exact hn a z; rw [show a = s by omega]; exact hps)
    · refine blk 7 [(.aload_n 0, 0, 0, 0), (.iload_n 3, 0, 0, 0), (.iload 4, 0, 0, 0), (.iload 5, 0, 0, 0), (.iload 6, 0, 0, 0), (.iload_n 1, 0, 0, 0), (.iload_n 2, 0, 0, 0)] [] (by decide +kernel) rfl (pc' := 55) (ls' := [some (.ref 72), some (.int pA), some (.int qA), some (.int (nI i)), some (.int (nI j)), some (.int (nI l)), some (.int (nI s)), none, none, none]) (st' := [.int qA, .int pA, .int (nI s), .int (nI l), .int (nI j), .int (nI i), .ref 72]) (M' := N) rfl ⟨trivial, trivial, trivial, trivial, trivial, trivial, trivial, trivial⟩ ?_
      refine g_callV (s_sw N (p := p) (q := q) (i := i) (j := j) (l := l) (s := s) pA qA m3 m4 hi hj hl (by omega) (bI_ne c1)) ok_X7_walk_X7_stepWorth (by decide +kernel) rfl (c := 7) rfl (by decide) rfl (Nat.le_of_ble_eq_true rfl) (fun r M' h => ?_) rfl
      obtain ⟨hr, hM⟩ := h
      rw [hr, hM]
      show G _ 58 [some (.ref 72), some (.int pA), some (.int qA), some (.int (nI i)), some (.int (nI j)), some (.int (nI l)), some (.int (nI s)), none, none, none] [.int (swF N i j l s pA qA)] N _
      refine blk 7 [(.aload_n 0, 0, 0, 0), (.getfield 83, 7, 36, 0), (.aload_n 0, 0, 0, 0), (.iload_n 3, 0, 0, 0), (.iload 4, 0, 0, 0), (.iload 5, 0, 0, 0)] [] (by decide +kernel) rfl (pc' := 68) (ls' := [some (.ref 72), some (.int pA), some (.int qA), some (.int (nI i)), some (.int (nI j)), some (.int (nI l)), some (.int (nI s)), none, none, none]) (st' := [.int (nI l), .int (nI j), .int (nI i), .ref 72, .ref 40, .int (swF N i j l s pA qA)]) (M' := N) rfl ⟨trivial, rfl, trivial, trivial, trivial, trivial, trivial⟩ ?_
      refine g_callV (s_entry N _ _ _) ok_X7_walk_X7_entry (by decide +kernel) rfl (c := 7) rfl (by decide) rfl (Nat.le_of_ble_eq_true rfl) (fun r M' h => ?_) rfl
      obtain ⟨hr, hM⟩ := h
      rw [hr, hM]
      show G _ 71 [some (.ref 72), some (.int pA), some (.int qA), some (.int (nI i)), some (.int (nI j)), some (.int (nI l)), some (.int (nI s)), none, none, none] [.int (nI 3 * (nI 61 * (nI i) + (nI j)) + (nI l)), .ref 40, .int (swF N i j l s pA qA)] N _
      refine blk 7 [(.iaload, 0, 0, 0)] [3 * (61 * i + j) + l] (by decide +kernel) rfl (pc' := 72) (ls' := [some (.ref 72), some (.int pA), some (.int qA), some (.int (nI i)), some (.int (nI j)), some (.int (nI l)), some (.int (nI s)), none, none, none]) (st' := [.int (N 40 (3 * (61 * i + j) + l)), .int (swF N i j l s pA qA)]) (M' := N) rfl ⟨⟨(by simp only [nI_add, pk_mul, nI_s1, Nat.reduceAdd, Nat.reduceMul]), (by show _ < 11163; omega)⟩, trivial⟩ ?_
      refine g_icmp_eq (off := 9) (tgt := 81) (by decide +kernel) (by decide) (fun c2 => ?_) (fun c2 => ?_)
      · have hps : prB M p q pA qA i j l s = true := by
          unfold prB; rw [bI_ne c1, Bool.true_and, decide_eq_true_eq, ← sw_keep hk, ← hk.1 40 (by decide) (by decide)]; exact c2
        have es := mch_is (by omega) hps hn
        subst es
        refine G.sub (ls' := [some (.ref 72), some (.int pA), some (.int qA), some (.int (nI i)), some (.int (nI j)), some (.int (nI l)), some (.int (nI (mch M p q pA qA i j l))), none, none, none]) ?_ ⟨rfl, rfl, rfl, rfl, rfl, rfl, congrArg (fun z => some (Value.int z)) (by simp only [nI_add, nI_s1]), trivial⟩
        exact hp
      · refine blk 7 [(.iinc 6 1, 0, 0, (nI 1)), (.goto (-45), 33, 0, 0)] [] (by decide +kernel) rfl (pc' := 33) (ls' := [some (.ref 72), some (.int pA), some (.int qA), some (.int (nI i)), some (.int (nI j)), some (.int (nI l)), some (.int (nI s + nI 1)), none, none, none]) (st' := []) (M' := N) rfl ⟨trivial, trivial, trivial⟩ ?_
        have hps : prB M p q pA qA i j l s = false := by
          unfold prB; rw [Bool.and_eq_false_iff]; right; rw [decide_eq_false_iff_not, ← sw_keep hk, ← hk.1 40 (by decide) (by decide)]; exact c2
        have hlt : s < mch M p q pA qA i j l := by
          rcases Nat.lt_or_ge s (mch M p q pA qA i j l) with z | z
          · exact z
          · have hok := hok
            rcases Nat.lt_or_ge (mch M p q pA qA i j l) s with y | y
            · rw [hn _ y] at hok; cases hok
            · rw [show mch M p q pA qA i j l = s by omega, hps] at hok; cases hok
        have hle := mch_le M p q pA qA i j l
        refine G.sub (ls' := [some (.ref 72), some (.int pA), some (.int qA), some (.int (nI i)), some (.int (nI j)), some (.int (nI l)), some (.int (nI (s + 1))), none, none, none]) ?_ ⟨rfl, rfl, rfl, rfl, rfl, rfl, congrArg (fun z => some (Value.int z)) (by simp only [nI_add, nI_s1]), trivial⟩
        exact ih (d - 1) (by omega) (s + 1) (by omega) (by omega) (fun a ha => by rcases Nat.lt_or_ge a s with z | z; exact hn a z; rw [show a = s by omega]; exact hps)
end
section
/-! the reference: walk, merge (2) -/
theorem l_mw2 {M : Mem} {i j l s n : Nat} {pA qA : Int32} {g : Nat → Nat → Int32} {Post : Option Value → Mem → Prop} (hs : s ≤ 2) (hn6 : n < 60) (h2i : s ≠ 2 → i < 60) (h1j : s ≠ 1 → j < 60) (hp : ∀ N, keepW M N → N 72 31 = nI n → (∀ a c, a < n + 1 → c < 5 → N 92 (60 * c + a) = if a = n then mcv M i j s c else g a c) → G mX7_walk 205 [some (.ref 72), some (.int pA), some (.int qA), some (.int (nI i)), some (.int (nI j)), some (.int (nI l)), some (.int (nI s)), none, none, none] [] N Post) : ∀ d w N, d = 5 - w → w ≤ 5 → keepW M N → N 72 31 = nI n → (∀ a c, a < n → c < 5 → N 92 (60 * c + a) = g a c) → (∀ c, c < w → N 92 (60 * c + n) = mcv M i j s c) → G mX7_walk 84 [some (.ref 72), some (.int pA), some (.int qA), some (.int (nI i)), some (.int (nI j)), some (.int (nI l)), some (.int (nI s)), some (.int (nI w)), none, none] [] N Post := by
  intro d
  induction d using Nat.strongRecOn with
  | ind d ih =>
    intro w N hd hw hk hn j1 j2
    refine blk 7 [(.iload 7, 0, 0, 0), (.iconst 5, 0, 0, (nI 5))] [] (by decide +kernel) rfl (pc' := 87) (ls' := [some (.ref 72), some (.int pA), some (.int qA), some (.int (nI i)), some (.int (nI j)), some (.int (nI l)), some (.int (nI s)), some (.int (nI w)), none, none]) (st' := [.int (nI 5), .int (nI w)]) (M' := N) rfl ⟨trivial, trivial, trivial⟩ ?_
    refine g_icmp_ge (off := 118) (tgt := 205) (by decide +kernel) (by decide) (fun c1 => ?_) (fun c1 => ?_)
    · have nc1 : 5 ≤ w := (nI_leI (by omega) (by omega)).mp (by simpa only [hn, nI_add, pk_mul, nI_s1, n0_lit] using c1)
      have e : w = 5 := by omega
      subst e
      refine G.sub (ls' := [some (.ref 72), some (.int pA), some (.int qA), some (.int (nI i)), some (.int (nI j)), some (.int (nI l)), some (.int (nI s)), none, none, none]) ?_ ⟨rfl, rfl, rfl, rfl, rfl, rfl, rfl, trivial⟩
      refine hp N hk hn (fun a c ha hc => ?_)
      by_cases e : a = n
      · subst e; rw [if_pos rfl]; exact j2 c hc
      · rw [if_neg e]; exact j1 a c (by omega) hc
    · have nc1 : w < 5 := by
        have z : ¬ nI 5 ≤ nI w := by simpa only [hn, nI_add, pk_mul, nI_s1, n0_lit] using c1
        rw [nI_leI (by omega) (by omega)] at z
        omega
      refine blk 7 [(.aload_n 0, 0, 0, 0), (.aload_n 0, 0, 0, 0), (.getfield 118, 7, 25, 0), (.iload 7, 0, 0, 0)] [] (by decide +kernel) rfl (pc' := 97) (ls' := [some (.ref 72), some (.int pA), some (.int qA), some (.int (nI i)), some (.int (nI j)), some (.int (nI l)), some (.int (nI s)), some (.int (nI w)), none, none]) (st' := [.int (nI w), .int (N 72 25), .ref 72]) (M' := N) rfl ⟨trivial, trivial, rfl, trivial, trivial⟩ ?_
      refine g_callV (s_isIn N (N 72 25) w) ok_X7_walk_X7_isIn (by decide +kernel) rfl (c := 7) rfl (by decide) rfl (Nat.le_of_ble_eq_true rfl) (fun r M' h => ?_) rfl
      obtain ⟨hr, hM⟩ := h
      rw [hr, hM]
      show G _ 100 [some (.ref 72), some (.int pA), some (.int qA), some (.int (nI i)), some (.int (nI j)), some (.int (nI l)), some (.int (nI s)), some (.int (nI w)), none, none] [.int (hb (N 72 25) w)] N _
      refine g_if_eq (off := 13) (tgt := 113) (by decide +kernel) (by decide) (fun c2 => ?_) (fun c2 => ?_)
      · refine blk 7 [(.iconst 0, 0, 0, (nI 0)), (.istore 8, 0, 0, 0), (.aload_n 0, 0, 0, 0), (.aload_n 0, 0, 0, 0), (.getfield 124, 7, 26, 0), (.iload 7, 0, 0, 0)] [] (by decide +kernel) rfl (pc' := 123) (ls' := [some (.ref 72), some (.int pA), some (.int qA), some (.int (nI i)), some (.int (nI j)), some (.int (nI l)), some (.int (nI s)), some (.int (nI w)), some (.int (nI 0)), none]) (st' := [.int (nI w), .int (N 72 26), .ref 72]) (M' := N) rfl ⟨trivial, trivial, trivial, trivial, rfl, trivial, trivial⟩ ?_
        refine g_callV (s_isIn N (N 72 26) w) ok_X7_walk_X7_isIn (by decide +kernel) rfl (c := 7) rfl (by decide) rfl (Nat.le_of_ble_eq_true rfl) (fun r M' h => ?_) rfl
        obtain ⟨hr, hM⟩ := h
        rw [hr, hM]
        show G _ 126 [some (.ref 72), some (.int pA), some (.int qA), some (.int (nI i)), some (.int (nI j)), some (.int (nI l)), some (.int (nI s)), some (.int (nI w)), some (.int (nI 0)), none] [.int (hb (N 72 26) w)] N _
        refine g_if_eq (off := 13) (tgt := 139) (by decide +kernel) (by decide) (fun c3 => ?_) (fun c3 => ?_)
        · refine blk 7 [(.iconst 0, 0, 0, (nI 0)), (.istore 9, 0, 0, 0), (.aload_n 0, 0, 0, 0), (.getfield 71, 7, 32, 0), (.bipush 60, 0, 0, (nI 60)), (.iload 7, 0, 0, 0), (.imul, 0, 0, 0), (.aload_n 0, 0, 0, 0), (.getfield 161, 7, 31, 0), (.iadd, 0, 0, 0), (.iload 8, 0, 0, 0)] [] (by decide +kernel) rfl (pc' := 158) (ls' := [some (.ref 72), some (.int pA), some (.int qA), some (.int (nI i)), some (.int (nI j)), some (.int (nI l)), some (.int (nI s)), some (.int (nI w)), some (.int (nI 0)), some (.int (nI 0))]) (st' := [.int (nI 0), .int (((nI 60) * (nI w)) + (N 72 31)), .ref 92]) (M' := N) rfl ⟨trivial, trivial, trivial, rfl, trivial, trivial, trivial, trivial, rfl, trivial, trivial, trivial⟩ ?_
          refine g_if_eq (off := 18) (tgt := 176) (by decide +kernel) (by decide) (fun c4 => ?_) (fun c4 => ?_)
          · refine blk 7 [(.iload 9, 0, 0, 0)] [] (by decide +kernel) rfl (pc' := 178) (ls' := [some (.ref 72), some (.int pA), some (.int qA), some (.int (nI i)), some (.int (nI j)), some (.int (nI l)), some (.int (nI s)), some (.int (nI w)), some (.int (nI 0)), some (.int (nI 0))]) (st' := [.int (nI 0), .int (((nI 60) * (nI w)) + (N 72 31)), .ref 92]) (M' := N) rfl ⟨trivial, trivial⟩ ?_
            refine g_if_eq (off := 19) (tgt := 197) (by decide +kernel) (by decide) (fun c5 => ?_) (fun c5 => ?_)
            · refine blk 7 [(.iconst (-1), 0, 0, (-1)), (.iastore, 0, 0, 0), (.iinc 7 1, 0, 0, (nI 1)), (.goto (-118), 84, 0, 0)] [60 * w + n] (by decide +kernel) rfl (pc' := 84) (ls' := [some (.ref 72), some (.int pA), some (.int qA), some (.int (nI i)), some (.int (nI j)), some (.int (nI l)), some (.int (nI s)), some (.int (nI w + nI 1)), some (.int (nI 0)), some (.int (nI 0))]) (st' := []) (M' := stm N 92 (60 * w + n) (-1)) rfl ⟨trivial, ⟨(by simp only [hn, nI_add, pk_mul, nI_s1, Nat.reduceAdd, Nat.reduceMul]), (by show _ < 300; omega), by decide⟩, trivial, trivial, trivial⟩ ?_
              have ev : -1 = mcv M i j s w := by rw [mcv, if_neg (fun z => z.1 (by rw [← hk.2 25 (by decide)]; exact c2)), if_neg (fun z => z.1 (by rw [← hk.2 26 (by decide)]; exact c3))]
              refine G.sub (ls' := [some (.ref 72), some (.int pA), some (.int qA), some (.int (nI i)), some (.int (nI j)), some (.int (nI l)), some (.int (nI s)), some (.int (nI (w + 1))), none, none]) ?_ ⟨rfl, rfl, rfl, rfl, rfl, rfl, rfl, congrArg (fun z => some (Value.int z)) (by simp only [nI_add, nI_s1]), trivial⟩
              refine ih (d - 1) (by omega) (w + 1) _ (by omega) (by omega) ⟨fun z h1 h2 => by rw [stm_ne h2]; exact hk.1 z h1 h2, fun f hf => by rw [stm_ne (by decide)]; exact hk.2 f hf⟩ (by rw [stm_ne (by decide)]; exact hn) (fun a c ha hc => by rw [stm_off (by omega)]; exact j1 a c ha hc) (fun c hc => ?_)
              by_cases e : c = w
              · subst e; rw [stm_self]; exact ev
              · rw [stm_off (by omega)]; exact j2 c (by omega)
            · exact absurd (by decide +kernel) c5
          · exact absurd (by decide +kernel) c4
        · refine blk 7 [(.iload 6, 0, 0, 0), (.iconst 1, 0, 0, (nI 1))] [] (by decide +kernel) rfl (pc' := 132) (ls' := [some (.ref 72), some (.int pA), some (.int qA), some (.int (nI i)), some (.int (nI j)), some (.int (nI l)), some (.int (nI s)), some (.int (nI w)), some (.int (nI 0)), none]) (st' := [.int (nI 1), .int (nI s)]) (M' := N) rfl ⟨trivial, trivial, trivial⟩ ?_
          refine g_icmp_eq (off := 7) (tgt := 139) (by decide +kernel) (by decide) (fun c6 => ?_) (fun c6 => ?_)
          · have nc6 : s = 1 := (nI_eq (by omega) (by omega)).mp (by simpa only [hn, nI_add, pk_mul, nI_s1, n0_lit] using c6)
            refine blk 7 [(.iconst 0, 0, 0, (nI 0)), (.istore 9, 0, 0, 0), (.aload_n 0, 0, 0, 0), (.getfield 71, 7, 32, 0), (.bipush 60, 0, 0, (nI 60)), (.iload 7, 0, 0, 0), (.imul, 0, 0, 0), (.aload_n 0, 0, 0, 0), (.getfield 161, 7, 31, 0), (.iadd, 0, 0, 0), (.iload 8, 0, 0, 0)] [] (by decide +kernel) rfl (pc' := 158) (ls' := [some (.ref 72), some (.int pA), some (.int qA), some (.int (nI i)), some (.int (nI j)), some (.int (nI l)), some (.int (nI s)), some (.int (nI w)), some (.int (nI 0)), some (.int (nI 0))]) (st' := [.int (nI 0), .int (((nI 60) * (nI w)) + (N 72 31)), .ref 92]) (M' := N) rfl ⟨trivial, trivial, trivial, rfl, trivial, trivial, trivial, trivial, rfl, trivial, trivial, trivial⟩ ?_
            refine g_if_eq (off := 18) (tgt := 176) (by decide +kernel) (by decide) (fun c7 => ?_) (fun c7 => ?_)
            · refine blk 7 [(.iload 9, 0, 0, 0)] [] (by decide +kernel) rfl (pc' := 178) (ls' := [some (.ref 72), some (.int pA), some (.int qA), some (.int (nI i)), some (.int (nI j)), some (.int (nI l)), some (.int (nI s)), some (.int (nI w)), some (.int (nI 0)), some (.int (nI 0))]) (st' := [.int (nI 0), .int (((nI 60) * (nI w)) + (N 72 31)), .ref 92]) (M' := N) rfl ⟨trivial, trivial⟩ ?_
              refine g_if_eq (off := 19) (tgt := 197) (by decide +kernel) (by decide) (fun c8 => ?_) (fun c8 => ?_)
              · refine blk 7 [(.iconst (-1), 0, 0, (-1)), (.iastore, 0, 0, 0), (.iinc 7 1, 0, 0, (nI 1)), (.goto (-118), 84, 0, 0)] [60 * w + n] (by decide +kernel) rfl (pc' := 84) (ls' := [some (.ref 72), some (.int pA), some (.int qA), some (.int (nI i)), some (.int (nI j)), some (.int (nI l)), some (.int (nI s)), some (.int (nI w + nI 1)), some (.int (nI 0)), some (.int (nI 0))]) (st' := []) (M' := stm N 92 (60 * w + n) (-1)) rfl ⟨trivial, ⟨(by simp only [hn, nI_add, pk_mul, nI_s1, Nat.reduceAdd, Nat.reduceMul]), (by show _ < 300; omega), by decide⟩, trivial, trivial, trivial⟩ ?_
                have ev : -1 = mcv M i j s w := by rw [mcv, if_neg (fun z => z.1 (by rw [← hk.2 25 (by decide)]; exact c2)), if_neg (fun z => z.2 nc6)]
                refine G.sub (ls' := [some (.ref 72), some (.int pA), some (.int qA), some (.int (nI i)), some (.int (nI j)), some (.int (nI l)), some (.int (nI s)), some (.int (nI (w + 1))), none, none]) ?_ ⟨rfl, rfl, rfl, rfl, rfl, rfl, rfl, congrArg (fun z => some (Value.int z)) (by simp only [nI_add, nI_s1]), trivial⟩
                refine ih (d - 1) (by omega) (w + 1) _ (by omega) (by omega) ⟨fun z h1 h2 => by rw [stm_ne h2]; exact hk.1 z h1 h2, fun f hf => by rw [stm_ne (by decide)]; exact hk.2 f hf⟩ (by rw [stm_ne (by decide)]; exact hn) (fun a c ha hc => by rw [stm_off (by omega)]; exact j1 a c ha hc) (fun c hc => ?_)
                by_cases e : c = w
                · subst e; rw [stm_self]; exact ev
                · rw [stm_off (by omega)]; exact j2 c (by omega)
              · exact absurd (by decide +kernel) c8
            · exact absurd (by decide +kernel) c7
          · have nc6 : s ≠ 1 := by
              have z : ¬ nI s = nI 1 := by simpa only [hn, nI_add, pk_mul, nI_s1, n0_lit] using c6
              rw [nI_eq (by omega) (by omega)] at z
              omega
            refine blk 7 [(.iconst 1, 0, 0, (nI 1)), (.goto (4), 140, 0, 0), (.istore 9, 0, 0, 0), (.aload_n 0, 0, 0, 0), (.getfield 71, 7, 32, 0), (.bipush 60, 0, 0, (nI 60)), (.iload 7, 0, 0, 0), (.imul, 0, 0, 0), (.aload_n 0, 0, 0, 0), (.getfield 161, 7, 31, 0), (.iadd, 0, 0, 0), (.iload 8, 0, 0, 0)] [] (by decide +kernel) rfl (pc' := 158) (ls' := [some (.ref 72), some (.int pA), some (.int qA), some (.int (nI i)), some (.int (nI j)), some (.int (nI l)), some (.int (nI s)), some (.int (nI w)), some (.int (nI 0)), some (.int (nI 1))]) (st' := [.int (nI 0), .int (((nI 60) * (nI w)) + (N 72 31)), .ref 92]) (M' := N) rfl ⟨trivial, trivial, trivial, trivial, rfl, trivial, trivial, trivial, trivial, rfl, trivial, trivial, trivial⟩ ?_
            refine g_if_eq (off := 18) (tgt := 176) (by decide +kernel) (by decide) (fun c9 => ?_) (fun c9 => ?_)
            · refine blk 7 [(.iload 9, 0, 0, 0)] [] (by decide +kernel) rfl (pc' := 178) (ls' := [some (.ref 72), some (.int pA), some (.int qA), some (.int (nI i)), some (.int (nI j)), some (.int (nI l)), some (.int (nI s)), some (.int (nI w)), some (.int (nI 0)), some (.int (nI 1))]) (st' := [.int (nI 1), .int (((nI 60) * (nI w)) + (N 72 31)), .ref 92]) (M' := N) rfl ⟨trivial, trivial⟩ ?_
              refine g_if_eq (off := 19) (tgt := 197) (by decide +kernel) (by decide) (fun c10 => ?_) (fun c10 => ?_)
              · exact absurd c10 (by decide +kernel)
              · refine blk 7 [(.aload_n 0, 0, 0, 0), (.getfield 68, 7, 30, 0), (.bipush 60, 0, 0, (nI 60)), (.iload 7, 0, 0, 0), (.imul, 0, 0, 0), (.iload 4, 0, 0, 0), (.iadd, 0, 0, 0), (.iaload, 0, 0, 0), (.goto (4), 198, 0, 0), (.iastore, 0, 0, 0), (.iinc 7 1, 0, 0, (nI 1)), (.goto (-118), 84, 0, 0)] [60 * w + j, 60 * w + n] (by decide +kernel) rfl (pc' := 84) (ls' := [some (.ref 72), some (.int pA), some (.int qA), some (.int (nI i)), some (.int (nI j)), some (.int (nI l)), some (.int (nI s)), some (.int (nI w + nI 1)), some (.int (nI 0)), some (.int (nI 1))]) (st' := []) (M' := stm N 92 (60 * w + n) (N 91 (60 * w + j))) rfl ⟨trivial, rfl, trivial, trivial, trivial, trivial, trivial, ⟨(by simp only [hn, nI_add, pk_mul, nI_s1, Nat.reduceAdd, Nat.reduceMul]), (by show _ < 300; have := h1j (by assumption); omega)⟩, trivial, ⟨(by simp only [hn, nI_add, pk_mul, nI_s1, Nat.reduceAdd, Nat.reduceMul]), (by show _ < 300; omega), by decide⟩, trivial, trivial, trivial⟩ ?_
                have ev : N 91 (60 * w + j) = mcv M i j s w := by rw [mcv, if_neg (fun z => z.1 (by rw [← hk.2 25 (by decide)]; exact c2)), if_pos ⟨(by rw [← hk.2 26 (by decide)]; exact c3), nc6⟩, ← hk.1 91 (by decide) (by decide)]
                refine G.sub (ls' := [some (.ref 72), some (.int pA), some (.int qA), some (.int (nI i)), some (.int (nI j)), some (.int (nI l)), some (.int (nI s)), some (.int (nI (w + 1))), none, none]) ?_ ⟨rfl, rfl, rfl, rfl, rfl, rfl, rfl, congrArg (fun z => some (Value.int z)) (by simp only [nI_add, nI_s1]), trivial⟩
                refine ih (d - 1) (by omega) (w + 1) _ (by omega) (by omega) ⟨fun z h1 h2 => by rw [stm_ne h2]; exact hk.1 z h1 h2, fun f hf => by rw [stm_ne (by decide)]; exact hk.2 f hf⟩ (by rw [stm_ne (by decide)]; exact hn) (fun a c ha hc => by rw [stm_off (by omega)]; exact j1 a c ha hc) (fun c hc => ?_)
                by_cases e : c = w
                · subst e; rw [stm_self]; exact ev
                · rw [stm_off (by omega)]; exact j2 c (by omega)
            · exact absurd (by decide +kernel) c9
      · refine blk 7 [(.iload 6, 0, 0, 0), (.iconst 2, 0, 0, (nI 2))] [] (by decide +kernel) rfl (pc' := 106) (ls' := [some (.ref 72), some (.int pA), some (.int qA), some (.int (nI i)), some (.int (nI j)), some (.int (nI l)), some (.int (nI s)), some (.int (nI w)), none, none]) (st' := [.int (nI 2), .int (nI s)]) (M' := N) rfl ⟨trivial, trivial, trivial⟩ ?_
        refine g_icmp_eq (off := 7) (tgt := 113) (by decide +kernel) (by decide) (fun c11 => ?_) (fun c11 => ?_)
        · have nc11 : s = 2 := (nI_eq (by omega) (by omega)).mp (by simpa only [hn, nI_add, pk_mul, nI_s1, n0_lit] using c11)
          refine blk 7 [(.iconst 0, 0, 0, (nI 0)), (.istore 8, 0, 0, 0), (.aload_n 0, 0, 0, 0), (.aload_n 0, 0, 0, 0), (.getfield 124, 7, 26, 0), (.iload 7, 0, 0, 0)] [] (by decide +kernel) rfl (pc' := 123) (ls' := [some (.ref 72), some (.int pA), some (.int qA), some (.int (nI i)), some (.int (nI j)), some (.int (nI l)), some (.int (nI s)), some (.int (nI w)), some (.int (nI 0)), none]) (st' := [.int (nI w), .int (N 72 26), .ref 72]) (M' := N) rfl ⟨trivial, trivial, trivial, trivial, rfl, trivial, trivial⟩ ?_
          refine g_callV (s_isIn N (N 72 26) w) ok_X7_walk_X7_isIn (by decide +kernel) rfl (c := 7) rfl (by decide) rfl (Nat.le_of_ble_eq_true rfl) (fun r M' h => ?_) rfl
          obtain ⟨hr, hM⟩ := h
          rw [hr, hM]
          show G _ 126 [some (.ref 72), some (.int pA), some (.int qA), some (.int (nI i)), some (.int (nI j)), some (.int (nI l)), some (.int (nI s)), some (.int (nI w)), some (.int (nI 0)), none] [.int (hb (N 72 26) w)] N _
          refine g_if_eq (off := 13) (tgt := 139) (by decide +kernel) (by decide) (fun c12 => ?_) (fun c12 => ?_)
          · refine blk 7 [(.iconst 0, 0, 0, (nI 0)), (.istore 9, 0, 0, 0), (.aload_n 0, 0, 0, 0), (.getfield 71, 7, 32, 0), (.bipush 60, 0, 0, (nI 60)), (.iload 7, 0, 0, 0), (.imul, 0, 0, 0), (.aload_n 0, 0, 0, 0), (.getfield 161, 7, 31, 0), (.iadd, 0, 0, 0), (.iload 8, 0, 0, 0)] [] (by decide +kernel) rfl (pc' := 158) (ls' := [some (.ref 72), some (.int pA), some (.int qA), some (.int (nI i)), some (.int (nI j)), some (.int (nI l)), some (.int (nI s)), some (.int (nI w)), some (.int (nI 0)), some (.int (nI 0))]) (st' := [.int (nI 0), .int (((nI 60) * (nI w)) + (N 72 31)), .ref 92]) (M' := N) rfl ⟨trivial, trivial, trivial, rfl, trivial, trivial, trivial, trivial, rfl, trivial, trivial, trivial⟩ ?_
            refine g_if_eq (off := 18) (tgt := 176) (by decide +kernel) (by decide) (fun c13 => ?_) (fun c13 => ?_)
            · refine blk 7 [(.iload 9, 0, 0, 0)] [] (by decide +kernel) rfl (pc' := 178) (ls' := [some (.ref 72), some (.int pA), some (.int qA), some (.int (nI i)), some (.int (nI j)), some (.int (nI l)), some (.int (nI s)), some (.int (nI w)), some (.int (nI 0)), some (.int (nI 0))]) (st' := [.int (nI 0), .int (((nI 60) * (nI w)) + (N 72 31)), .ref 92]) (M' := N) rfl ⟨trivial, trivial⟩ ?_
              refine g_if_eq (off := 19) (tgt := 197) (by decide +kernel) (by decide) (fun c14 => ?_) (fun c14 => ?_)
              · refine blk 7 [(.iconst (-1), 0, 0, (-1)), (.iastore, 0, 0, 0), (.iinc 7 1, 0, 0, (nI 1)), (.goto (-118), 84, 0, 0)] [60 * w + n] (by decide +kernel) rfl (pc' := 84) (ls' := [some (.ref 72), some (.int pA), some (.int qA), some (.int (nI i)), some (.int (nI j)), some (.int (nI l)), some (.int (nI s)), some (.int (nI w + nI 1)), some (.int (nI 0)), some (.int (nI 0))]) (st' := []) (M' := stm N 92 (60 * w + n) (-1)) rfl ⟨trivial, ⟨(by simp only [hn, nI_add, pk_mul, nI_s1, Nat.reduceAdd, Nat.reduceMul]), (by show _ < 300; omega), by decide⟩, trivial, trivial, trivial⟩ ?_
                have ev : -1 = mcv M i j s w := by rw [mcv, if_neg (fun z => z.2 nc11), if_neg (fun z => z.1 (by rw [← hk.2 26 (by decide)]; exact c12))]
                refine G.sub (ls' := [some (.ref 72), some (.int pA), some (.int qA), some (.int (nI i)), some (.int (nI j)), some (.int (nI l)), some (.int (nI s)), some (.int (nI (w + 1))), none, none]) ?_ ⟨rfl, rfl, rfl, rfl, rfl, rfl, rfl, congrArg (fun z => some (Value.int z)) (by simp only [nI_add, nI_s1]), trivial⟩
                refine ih (d - 1) (by omega) (w + 1) _ (by omega) (by omega) ⟨fun z h1 h2 => by rw [stm_ne h2]; exact hk.1 z h1 h2, fun f hf => by rw [stm_ne (by decide)]; exact hk.2 f hf⟩ (by rw [stm_ne (by decide)]; exact hn) (fun a c ha hc => by rw [stm_off (by omega)]; exact j1 a c ha hc) (fun c hc => ?_)
                by_cases e : c = w
                · subst e; rw [stm_self]; exact ev
                · rw [stm_off (by omega)]; exact j2 c (by omega)
              · exact absurd (by decide +kernel) c14
            · exact absurd (by decide +kernel) c13
          · refine blk 7 [(.iload 6, 0, 0, 0), (.iconst 1, 0, 0, (nI 1))] [] (by decide +kernel) rfl (pc' := 132) (ls' := [some (.ref 72), some (.int pA), some (.int qA), some (.int (nI i)), some (.int (nI j)), some (.int (nI l)), some (.int (nI s)), some (.int (nI w)), some (.int (nI 0)), none]) (st' := [.int (nI 1), .int (nI s)]) (M' := N) rfl ⟨trivial, trivial, trivial⟩ ?_
            refine g_icmp_eq (off := 7) (tgt := 139) (by decide +kernel) (by decide) (fun c15 => ?_) (fun c15 => ?_)
            · have nc15 : s = 1 := (nI_eq (by omega) (by omega)).mp (by simpa only [hn, nI_add, pk_mul, nI_s1, n0_lit] using c15)
              refine blk 7 [(.iconst 0, 0, 0, (nI 0)), (.istore 9, 0, 0, 0), (.aload_n 0, 0, 0, 0), (.getfield 71, 7, 32, 0), (.bipush 60, 0, 0, (nI 60)), (.iload 7, 0, 0, 0), (.imul, 0, 0, 0), (.aload_n 0, 0, 0, 0), (.getfield 161, 7, 31, 0), (.iadd, 0, 0, 0), (.iload 8, 0, 0, 0)] [] (by decide +kernel) rfl (pc' := 158) (ls' := [some (.ref 72), some (.int pA), some (.int qA), some (.int (nI i)), some (.int (nI j)), some (.int (nI l)), some (.int (nI s)), some (.int (nI w)), some (.int (nI 0)), some (.int (nI 0))]) (st' := [.int (nI 0), .int (((nI 60) * (nI w)) + (N 72 31)), .ref 92]) (M' := N) rfl ⟨trivial, trivial, trivial, rfl, trivial, trivial, trivial, trivial, rfl, trivial, trivial, trivial⟩ ?_
              refine g_if_eq (off := 18) (tgt := 176) (by decide +kernel) (by decide) (fun c16 => ?_) (fun c16 => ?_)
              · refine blk 7 [(.iload 9, 0, 0, 0)] [] (by decide +kernel) rfl (pc' := 178) (ls' := [some (.ref 72), some (.int pA), some (.int qA), some (.int (nI i)), some (.int (nI j)), some (.int (nI l)), some (.int (nI s)), some (.int (nI w)), some (.int (nI 0)), some (.int (nI 0))]) (st' := [.int (nI 0), .int (((nI 60) * (nI w)) + (N 72 31)), .ref 92]) (M' := N) rfl ⟨trivial, trivial⟩ ?_
                refine g_if_eq (off := 19) (tgt := 197) (by decide +kernel) (by decide) (fun c17 => ?_) (fun c17 => ?_)
                · refine blk 7 [(.iconst (-1), 0, 0, (-1)), (.iastore, 0, 0, 0), (.iinc 7 1, 0, 0, (nI 1)), (.goto (-118), 84, 0, 0)] [60 * w + n] (by decide +kernel) rfl (pc' := 84) (ls' := [some (.ref 72), some (.int pA), some (.int qA), some (.int (nI i)), some (.int (nI j)), some (.int (nI l)), some (.int (nI s)), some (.int (nI w + nI 1)), some (.int (nI 0)), some (.int (nI 0))]) (st' := []) (M' := stm N 92 (60 * w + n) (-1)) rfl ⟨trivial, ⟨(by simp only [hn, nI_add, pk_mul, nI_s1, Nat.reduceAdd, Nat.reduceMul]), (by show _ < 300; omega), by decide⟩, trivial, trivial, trivial⟩ ?_
                  have ev : -1 = mcv M i j s w := by rw [mcv, if_neg (fun z => z.2 nc11), if_neg (fun z => z.2 nc15)]
                  refine G.sub (ls' := [some (.ref 72), some (.int pA), some (.int qA), some (.int (nI i)), some (.int (nI j)), some (.int (nI l)), some (.int (nI s)), some (.int (nI (w + 1))), none, none]) ?_ ⟨rfl, rfl, rfl, rfl, rfl, rfl, rfl, congrArg (fun z => some (Value.int z)) (by simp only [nI_add, nI_s1]), trivial⟩
                  refine ih (d - 1) (by omega) (w + 1) _ (by omega) (by omega) ⟨fun z h1 h2 => by rw [stm_ne h2]; exact hk.1 z h1 h2, fun f hf => by rw [stm_ne (by decide)]; exact hk.2 f hf⟩ (by rw [stm_ne (by decide)]; exact hn) (fun a c ha hc => by rw [stm_off (by omega)]; exact j1 a c ha hc) (fun c hc => ?_)
                  by_cases e : c = w
                  · subst e; rw [stm_self]; exact ev
                  · rw [stm_off (by omega)]; exact j2 c (by omega)
                · exact absurd (by decide +kernel) c17
              · exact absurd (by decide +kernel) c16
            · have nc15 : s ≠ 1 := by
                have z : ¬ nI s = nI 1 := by simpa only [hn, nI_add, pk_mul, nI_s1, n0_lit] using c15
                rw [nI_eq (by omega) (by omega)] at z
                omega
              refine blk 7 [(.iconst 1, 0, 0, (nI 1)), (.goto (4), 140, 0, 0), (.istore 9, 0, 0, 0), (.aload_n 0, 0, 0, 0), (.getfield 71, 7, 32, 0), (.bipush 60, 0, 0, (nI 60)), (.iload 7, 0, 0, 0), (.imul, 0, 0, 0), (.aload_n 0, 0, 0, 0), (.getfield 161, 7, 31, 0), (.iadd, 0, 0, 0), (.iload 8, 0, 0, 0)] [] (by decide +kernel) rfl (pc' := 158) (ls' := [some (.ref 72), some (.int pA), some (.int qA), some (.int (nI i)), some (.int (nI j)), some (.int (nI l)), some (.int (nI s)), some (.int (nI w)), some (.int (nI 0)), some (.int (nI 1))]) (st' := [.int (nI 0), .int (((nI 60) * (nI w)) + (N 72 31)), .ref 92]) (M' := N) rfl ⟨trivial, trivial, trivial, trivial, rfl, trivial, trivial, trivial, trivial, rfl, trivial, trivial, trivial⟩ ?_
              refine g_if_eq (off := 18) (tgt := 176) (by decide +kernel) (by decide) (fun c18 => ?_) (fun c18 => ?_)
              · refine blk 7 [(.iload 9, 0, 0, 0)] [] (by decide +kernel) rfl (pc' := 178) (ls' := [some (.ref 72), some (.int pA), some (.int qA), some (.int (nI i)), some (.int (nI j)), some (.int (nI l)), some (.int (nI s)), some (.int (nI w)), some (.int (nI 0)), some (.int (nI 1))]) (st' := [.int (nI 1), .int (((nI 60) * (nI w)) + (N 72 31)), .ref 92]) (M' := N) rfl ⟨trivial, trivial⟩ ?_
                refine g_if_eq (off := 19) (tgt := 197) (by decide +kernel) (by decide) (fun c19 => ?_) (fun c19 => ?_)
                · exact absurd c19 (by decide +kernel)
                · refine blk 7 [(.aload_n 0, 0, 0, 0), (.getfield 68, 7, 30, 0), (.bipush 60, 0, 0, (nI 60)), (.iload 7, 0, 0, 0), (.imul, 0, 0, 0), (.iload 4, 0, 0, 0), (.iadd, 0, 0, 0), (.iaload, 0, 0, 0), (.goto (4), 198, 0, 0), (.iastore, 0, 0, 0), (.iinc 7 1, 0, 0, (nI 1)), (.goto (-118), 84, 0, 0)] [60 * w + j, 60 * w + n] (by decide +kernel) rfl (pc' := 84) (ls' := [some (.ref 72), some (.int pA), some (.int qA), some (.int (nI i)), some (.int (nI j)), some (.int (nI l)), some (.int (nI s)), some (.int (nI w + nI 1)), some (.int (nI 0)), some (.int (nI 1))]) (st' := []) (M' := stm N 92 (60 * w + n) (N 91 (60 * w + j))) rfl ⟨trivial, rfl, trivial, trivial, trivial, trivial, trivial, ⟨(by simp only [hn, nI_add, pk_mul, nI_s1, Nat.reduceAdd, Nat.reduceMul]), (by show _ < 300; have := h1j (by assumption); omega)⟩, trivial, ⟨(by simp only [hn, nI_add, pk_mul, nI_s1, Nat.reduceAdd, Nat.reduceMul]), (by show _ < 300; omega), by decide⟩, trivial, trivial, trivial⟩ ?_
                  have ev : N 91 (60 * w + j) = mcv M i j s w := by rw [mcv, if_neg (fun z => z.2 nc11), if_pos ⟨(by rw [← hk.2 26 (by decide)]; exact c12), nc15⟩, ← hk.1 91 (by decide) (by decide)]
                  refine G.sub (ls' := [some (.ref 72), some (.int pA), some (.int qA), some (.int (nI i)), some (.int (nI j)), some (.int (nI l)), some (.int (nI s)), some (.int (nI (w + 1))), none, none]) ?_ ⟨rfl, rfl, rfl, rfl, rfl, rfl, rfl, congrArg (fun z => some (Value.int z)) (by simp only [nI_add, nI_s1]), trivial⟩
                  refine ih (d - 1) (by omega) (w + 1) _ (by omega) (by omega) ⟨fun z h1 h2 => by rw [stm_ne h2]; exact hk.1 z h1 h2, fun f hf => by rw [stm_ne (by decide)]; exact hk.2 f hf⟩ (by rw [stm_ne (by decide)]; exact hn) (fun a c ha hc => by rw [stm_off (by omega)]; exact j1 a c ha hc) (fun c hc => ?_)
                  by_cases e : c = w
                  · subst e; rw [stm_self]; exact ev
                  · rw [stm_off (by omega)]; exact j2 c (by omega)
              · exact absurd (by decide +kernel) c18
        · have nc11 : s ≠ 2 := by
            have z : ¬ nI s = nI 2 := by simpa only [hn, nI_add, pk_mul, nI_s1, n0_lit] using c11
            rw [nI_eq (by omega) (by omega)] at z
            omega
          refine blk 7 [(.iconst 1, 0, 0, (nI 1)), (.goto (4), 114, 0, 0), (.istore 8, 0, 0, 0), (.aload_n 0, 0, 0, 0), (.aload_n 0, 0, 0, 0), (.getfield 124, 7, 26, 0), (.iload 7, 0, 0, 0)] [] (by decide +kernel) rfl (pc' := 123) (ls' := [some (.ref 72), some (.int pA), some (.int qA), some (.int (nI i)), some (.int (nI j)), some (.int (nI l)), some (.int (nI s)), some (.int (nI w)), some (.int (nI 1)), none]) (st' := [.int (nI w), .int (N 72 26), .ref 72]) (M' := N) rfl ⟨trivial, trivial, trivial, trivial, trivial, rfl, trivial, trivial⟩ ?_
          refine g_callV (s_isIn N (N 72 26) w) ok_X7_walk_X7_isIn (by decide +kernel) rfl (c := 7) rfl (by decide) rfl (Nat.le_of_ble_eq_true rfl) (fun r M' h => ?_) rfl
          obtain ⟨hr, hM⟩ := h
          rw [hr, hM]
          show G _ 126 [some (.ref 72), some (.int pA), some (.int qA), some (.int (nI i)), some (.int (nI j)), some (.int (nI l)), some (.int (nI s)), some (.int (nI w)), some (.int (nI 1)), none] [.int (hb (N 72 26) w)] N _
          refine g_if_eq (off := 13) (tgt := 139) (by decide +kernel) (by decide) (fun c20 => ?_) (fun c20 => ?_)
          · refine blk 7 [(.iconst 0, 0, 0, (nI 0)), (.istore 9, 0, 0, 0), (.aload_n 0, 0, 0, 0), (.getfield 71, 7, 32, 0), (.bipush 60, 0, 0, (nI 60)), (.iload 7, 0, 0, 0), (.imul, 0, 0, 0), (.aload_n 0, 0, 0, 0), (.getfield 161, 7, 31, 0), (.iadd, 0, 0, 0), (.iload 8, 0, 0, 0)] [] (by decide +kernel) rfl (pc' := 158) (ls' := [some (.ref 72), some (.int pA), some (.int qA), some (.int (nI i)), some (.int (nI j)), some (.int (nI l)), some (.int (nI s)), some (.int (nI w)), some (.int (nI 1)), some (.int (nI 0))]) (st' := [.int (nI 1), .int (((nI 60) * (nI w)) + (N 72 31)), .ref 92]) (M' := N) rfl ⟨trivial, trivial, trivial, rfl, trivial, trivial, trivial, trivial, rfl, trivial, trivial, trivial⟩ ?_
            refine g_if_eq (off := 18) (tgt := 176) (by decide +kernel) (by decide) (fun c21 => ?_) (fun c21 => ?_)
            · exact absurd c21 (by decide +kernel)
            · refine blk 7 [(.aload_n 0, 0, 0, 0), (.getfield 65, 7, 29, 0), (.bipush 60, 0, 0, (nI 60)), (.iload 7, 0, 0, 0), (.imul, 0, 0, 0), (.iload_n 3, 0, 0, 0), (.iadd, 0, 0, 0), (.iaload, 0, 0, 0), (.goto (25), 198, 0, 0), (.iastore, 0, 0, 0), (.iinc 7 1, 0, 0, (nI 1)), (.goto (-118), 84, 0, 0)] [60 * w + i, 60 * w + n] (by decide +kernel) rfl (pc' := 84) (ls' := [some (.ref 72), some (.int pA), some (.int qA), some (.int (nI i)), some (.int (nI j)), some (.int (nI l)), some (.int (nI s)), some (.int (nI w + nI 1)), some (.int (nI 1)), some (.int (nI 0))]) (st' := []) (M' := stm N 92 (60 * w + n) (N 90 (60 * w + i))) rfl ⟨trivial, rfl, trivial, trivial, trivial, trivial, trivial, ⟨(by simp only [hn, nI_add, pk_mul, nI_s1, Nat.reduceAdd, Nat.reduceMul]), (by show _ < 300; have := h2i (by assumption); omega)⟩, trivial, ⟨(by simp only [hn, nI_add, pk_mul, nI_s1, Nat.reduceAdd, Nat.reduceMul]), (by show _ < 300; omega), by decide⟩, trivial, trivial, trivial⟩ ?_
              have ev : N 90 (60 * w + i) = mcv M i j s w := by rw [mcv, if_pos ⟨(by rw [← hk.2 25 (by decide)]; exact c2), nc11⟩, ← hk.1 90 (by decide) (by decide)]
              refine G.sub (ls' := [some (.ref 72), some (.int pA), some (.int qA), some (.int (nI i)), some (.int (nI j)), some (.int (nI l)), some (.int (nI s)), some (.int (nI (w + 1))), none, none]) ?_ ⟨rfl, rfl, rfl, rfl, rfl, rfl, rfl, congrArg (fun z => some (Value.int z)) (by simp only [nI_add, nI_s1]), trivial⟩
              refine ih (d - 1) (by omega) (w + 1) _ (by omega) (by omega) ⟨fun z h1 h2 => by rw [stm_ne h2]; exact hk.1 z h1 h2, fun f hf => by rw [stm_ne (by decide)]; exact hk.2 f hf⟩ (by rw [stm_ne (by decide)]; exact hn) (fun a c ha hc => by rw [stm_off (by omega)]; exact j1 a c ha hc) (fun c hc => ?_)
              by_cases e : c = w
              · subst e; rw [stm_self]; exact ev
              · rw [stm_off (by omega)]; exact j2 c (by omega)
          · refine blk 7 [(.iload 6, 0, 0, 0), (.iconst 1, 0, 0, (nI 1))] [] (by decide +kernel) rfl (pc' := 132) (ls' := [some (.ref 72), some (.int pA), some (.int qA), some (.int (nI i)), some (.int (nI j)), some (.int (nI l)), some (.int (nI s)), some (.int (nI w)), some (.int (nI 1)), none]) (st' := [.int (nI 1), .int (nI s)]) (M' := N) rfl ⟨trivial, trivial, trivial⟩ ?_
            refine g_icmp_eq (off := 7) (tgt := 139) (by decide +kernel) (by decide) (fun c22 => ?_) (fun c22 => ?_)
            · have nc22 : s = 1 := (nI_eq (by omega) (by omega)).mp (by simpa only [hn, nI_add, pk_mul, nI_s1, n0_lit] using c22)
              refine blk 7 [(.iconst 0, 0, 0, (nI 0)), (.istore 9, 0, 0, 0), (.aload_n 0, 0, 0, 0), (.getfield 71, 7, 32, 0), (.bipush 60, 0, 0, (nI 60)), (.iload 7, 0, 0, 0), (.imul, 0, 0, 0), (.aload_n 0, 0, 0, 0), (.getfield 161, 7, 31, 0), (.iadd, 0, 0, 0), (.iload 8, 0, 0, 0)] [] (by decide +kernel) rfl (pc' := 158) (ls' := [some (.ref 72), some (.int pA), some (.int qA), some (.int (nI i)), some (.int (nI j)), some (.int (nI l)), some (.int (nI s)), some (.int (nI w)), some (.int (nI 1)), some (.int (nI 0))]) (st' := [.int (nI 1), .int (((nI 60) * (nI w)) + (N 72 31)), .ref 92]) (M' := N) rfl ⟨trivial, trivial, trivial, rfl, trivial, trivial, trivial, trivial, rfl, trivial, trivial, trivial⟩ ?_
              refine g_if_eq (off := 18) (tgt := 176) (by decide +kernel) (by decide) (fun c23 => ?_) (fun c23 => ?_)
              · exact absurd c23 (by decide +kernel)
              · refine blk 7 [(.aload_n 0, 0, 0, 0), (.getfield 65, 7, 29, 0), (.bipush 60, 0, 0, (nI 60)), (.iload 7, 0, 0, 0), (.imul, 0, 0, 0), (.iload_n 3, 0, 0, 0), (.iadd, 0, 0, 0), (.iaload, 0, 0, 0), (.goto (25), 198, 0, 0), (.iastore, 0, 0, 0), (.iinc 7 1, 0, 0, (nI 1)), (.goto (-118), 84, 0, 0)] [60 * w + i, 60 * w + n] (by decide +kernel) rfl (pc' := 84) (ls' := [some (.ref 72), some (.int pA), some (.int qA), some (.int (nI i)), some (.int (nI j)), some (.int (nI l)), some (.int (nI s)), some (.int (nI w + nI 1)), some (.int (nI 1)), some (.int (nI 0))]) (st' := []) (M' := stm N 92 (60 * w + n) (N 90 (60 * w + i))) rfl ⟨trivial, rfl, trivial, trivial, trivial, trivial, trivial, ⟨(by simp only [hn, nI_add, pk_mul, nI_s1, Nat.reduceAdd, Nat.reduceMul]), (by show _ < 300; have := h2i (by assumption); omega)⟩, trivial, ⟨(by simp only [hn, nI_add, pk_mul, nI_s1, Nat.reduceAdd, Nat.reduceMul]), (by show _ < 300; omega), by decide⟩, trivial, trivial, trivial⟩ ?_
                have ev : N 90 (60 * w + i) = mcv M i j s w := by rw [mcv, if_pos ⟨(by rw [← hk.2 25 (by decide)]; exact c2), nc11⟩, ← hk.1 90 (by decide) (by decide)]
                refine G.sub (ls' := [some (.ref 72), some (.int pA), some (.int qA), some (.int (nI i)), some (.int (nI j)), some (.int (nI l)), some (.int (nI s)), some (.int (nI (w + 1))), none, none]) ?_ ⟨rfl, rfl, rfl, rfl, rfl, rfl, rfl, congrArg (fun z => some (Value.int z)) (by simp only [nI_add, nI_s1]), trivial⟩
                refine ih (d - 1) (by omega) (w + 1) _ (by omega) (by omega) ⟨fun z h1 h2 => by rw [stm_ne h2]; exact hk.1 z h1 h2, fun f hf => by rw [stm_ne (by decide)]; exact hk.2 f hf⟩ (by rw [stm_ne (by decide)]; exact hn) (fun a c ha hc => by rw [stm_off (by omega)]; exact j1 a c ha hc) (fun c hc => ?_)
                by_cases e : c = w
                · subst e; rw [stm_self]; exact ev
                · rw [stm_off (by omega)]; exact j2 c (by omega)
            · have nc22 : s ≠ 1 := by
                have z : ¬ nI s = nI 1 := by simpa only [hn, nI_add, pk_mul, nI_s1, n0_lit] using c22
                rw [nI_eq (by omega) (by omega)] at z
                omega
              refine blk 7 [(.iconst 1, 0, 0, (nI 1)), (.goto (4), 140, 0, 0), (.istore 9, 0, 0, 0), (.aload_n 0, 0, 0, 0), (.getfield 71, 7, 32, 0), (.bipush 60, 0, 0, (nI 60)), (.iload 7, 0, 0, 0), (.imul, 0, 0, 0), (.aload_n 0, 0, 0, 0), (.getfield 161, 7, 31, 0), (.iadd, 0, 0, 0), (.iload 8, 0, 0, 0)] [] (by decide +kernel) rfl (pc' := 158) (ls' := [some (.ref 72), some (.int pA), some (.int qA), some (.int (nI i)), some (.int (nI j)), some (.int (nI l)), some (.int (nI s)), some (.int (nI w)), some (.int (nI 1)), some (.int (nI 1))]) (st' := [.int (nI 1), .int (((nI 60) * (nI w)) + (N 72 31)), .ref 92]) (M' := N) rfl ⟨trivial, trivial, trivial, trivial, rfl, trivial, trivial, trivial, trivial, rfl, trivial, trivial, trivial⟩ ?_
              refine g_if_eq (off := 18) (tgt := 176) (by decide +kernel) (by decide) (fun c24 => ?_) (fun c24 => ?_)
              · exact absurd c24 (by decide +kernel)
              · refine blk 7 [(.aload_n 0, 0, 0, 0), (.getfield 65, 7, 29, 0), (.bipush 60, 0, 0, (nI 60)), (.iload 7, 0, 0, 0), (.imul, 0, 0, 0), (.iload_n 3, 0, 0, 0), (.iadd, 0, 0, 0), (.iaload, 0, 0, 0), (.goto (25), 198, 0, 0), (.iastore, 0, 0, 0), (.iinc 7 1, 0, 0, (nI 1)), (.goto (-118), 84, 0, 0)] [60 * w + i, 60 * w + n] (by decide +kernel) rfl (pc' := 84) (ls' := [some (.ref 72), some (.int pA), some (.int qA), some (.int (nI i)), some (.int (nI j)), some (.int (nI l)), some (.int (nI s)), some (.int (nI w + nI 1)), some (.int (nI 1)), some (.int (nI 1))]) (st' := []) (M' := stm N 92 (60 * w + n) (N 90 (60 * w + i))) rfl ⟨trivial, rfl, trivial, trivial, trivial, trivial, trivial, ⟨(by simp only [hn, nI_add, pk_mul, nI_s1, Nat.reduceAdd, Nat.reduceMul]), (by show _ < 300; have := h2i (by assumption); omega)⟩, trivial, ⟨(by simp only [hn, nI_add, pk_mul, nI_s1, Nat.reduceAdd, Nat.reduceMul]), (by show _ < 300; omega), by decide⟩, trivial, trivial, trivial⟩ ?_
                have ev : N 90 (60 * w + i) = mcv M i j s w := by rw [mcv, if_pos ⟨(by rw [← hk.2 25 (by decide)]; exact c2), nc11⟩, ← hk.1 90 (by decide) (by decide)]
                refine G.sub (ls' := [some (.ref 72), some (.int pA), some (.int qA), some (.int (nI i)), some (.int (nI j)), some (.int (nI l)), some (.int (nI s)), some (.int (nI (w + 1))), none, none]) ?_ ⟨rfl, rfl, rfl, rfl, rfl, rfl, rfl, congrArg (fun z => some (Value.int z)) (by simp only [nI_add, nI_s1]), trivial⟩
                refine ih (d - 1) (by omega) (w + 1) _ (by omega) (by omega) ⟨fun z h1 h2 => by rw [stm_ne h2]; exact hk.1 z h1 h2, fun f hf => by rw [stm_ne (by decide)]; exact hk.2 f hf⟩ (by rw [stm_ne (by decide)]; exact hn) (fun a c ha hc => by rw [stm_off (by omega)]; exact j1 a c ha hc) (fun c hc => ?_)
                by_cases e : c = w
                · subst e; rw [stm_self]; exact ev
                · rw [stm_off (by omega)]; exact j2 c (by omega)
theorem l_mw {M : Mem} {p q : Nat} {pA qA : Int32} (hm : mgr M p q) (hpq : p + q ≤ 60) (hmo : mOK M p q pA qA) : ∀ d n i j l N, d = p + q - (i + j) → i ≤ p → j ≤ q → l ≤ 2 → i = (mst M p q pA qA n).1 → j = (mst M p q pA qA n).2.1 → l = (mst M p q pA qA n).2.2 → n ≤ i + j → (∀ k, k < n → ((mst M p q pA qA k).1 ≤ p ∧ (mst M p q pA qA k).2.1 ≤ q ∧ ((mst M p q pA qA k).1 < p ∨ (mst M p q pA qA k).2.1 < q))) → N 72 31 = nI n → (∀ k w, k < n → w < 5 → N 92 (60 * w + k) = mcv M (mst M p q pA qA k).1 (mst M p q pA qA k).2.1 (mst M p q pA qA (k + 1)).2.2 w) → keepW M N → G mX7_walk 13 [some (.ref 72), some (.int pA), some (.int qA), some (.int (nI i)), some (.int (nI j)), some (.int (nI l)), none, none, none, none] [] N (mwalkP M p q pA qA) := by
  have ⟨m1, m2, m3, m4⟩ := hm
  intro d
  induction d using Nat.strongRecOn with
  | ind d ih =>
    intro n i j l N hd hi hj hl hw1 hw2 hw3 hnij ip hn j1 hk
    have n1 : N 72 27 = nI p := by rw [hk.2 27 (by decide)]; exact m1
    have n2 : N 72 28 = nI q := by rw [hk.2 28 (by decide)]; exact m2
    refine blk 7 [(.iload_n 3, 0, 0, 0), (.aload_n 0, 0, 0, 0), (.getfield 121, 7, 27, 0)] [] (by decide +kernel) rfl (pc' := 18) (ls' := [some (.ref 72), some (.int pA), some (.int qA), some (.int (nI i)), some (.int (nI j)), some (.int (nI l)), none, none, none, none]) (st' := [.int (N 72 27), .int (nI i)]) (M' := N) rfl ⟨trivial, trivial, rfl, trivial⟩ ?_
    refine g_icmp_lt (off := 12) (tgt := 30) (by decide +kernel) (by decide) (fun c1 => ?_) (fun c1 => ?_)
    · have nc1 : i < p := (nI_ltI (by omega) (by omega)).mp (by simpa only [hn, n1, n2, nI_add, pk_mul, nI_s1, n0_lit] using c1)
      refine blk 7 [(.iconst 0, 0, 0, (nI 0)), (.istore 6, 0, 0, 0)] [] (by decide +kernel) rfl (pc' := 33) (ls' := [some (.ref 72), some (.int pA), some (.int qA), some (.int (nI i)), some (.int (nI j)), some (.int (nI l)), some (.int (nI 0)), none, none, none]) (st' := []) (M' := N) rfl ⟨trivial, trivial, trivial⟩ ?_
      have hok := hmo i j l hi hj (by omega) hl
      have hs := mch_le M p q pA qA i j l
      refine l_mw1 hm hk hi hj hl hok ?_ _ 0 rfl (by omega) (fun a h => absurd h (by omega))
      have hcv := canB_of (Bool.and_eq_true _ _ ▸ hok).1
      generalize hsg : mch M p q pA qA i j l = s at hs hcv
      refine blk 7 [(.iconst 0, 0, 0, (nI 0)), (.istore 7, 0, 0, 0)] [] (by decide +kernel) rfl (pc' := 84) (ls' := [some (.ref 72), some (.int pA), some (.int qA), some (.int (nI i)), some (.int (nI j)), some (.int (nI l)), some (.int (nI s)), some (.int (nI 0)), none, none]) (st' := []) (M' := N) rfl ⟨trivial, trivial, trivial⟩ ?_
      refine l_mw2 (M := M) (g := fun k w => mcv M (mst M p q pA qA k).1 (mst M p q pA qA k).2.1 (mst M p q pA qA (k + 1)).2.2 w) hs (by omega) (fun h => by have := m3; omega) (fun h => by have := m4; omega) (fun A hkA hnA hA => ?_) _ 0 N rfl (by omega) hk hn j1 (fun c h => absurd h (by omega))
      refine blk 7 [(.aload_n 0, 0, 0, 0), (.dup, 0, 0, 0), (.getfield 161, 7, 31, 0), (.iconst 1, 0, 0, (nI 1)), (.iadd, 0, 0, 0), (.putfield 161, 7, 31, 0), (.iload_n 3, 0, 0, 0), (.iload 6, 0, 0, 0), (.iconst 2, 0, 0, (nI 2))] [] (by decide +kernel) rfl (pc' := 219) (ls' := [some (.ref 72), some (.int pA), some (.int qA), some (.int (nI i)), some (.int (nI j)), some (.int (nI l)), some (.int (nI s)), none, none, none]) (st' := [.int (nI 2), .int (nI s), .int (nI i)]) (M' := stm A 72 31 ((A 72 31) + (nI 1))) rfl ⟨trivial, rfl, rfl, trivial, trivial, rfl, trivial, trivial, trivial, trivial⟩ ?_
      refine g_icmp_ne (off := 7) (tgt := 226) (by decide +kernel) (by decide) (fun c1 => ?_) (fun c1 => ?_)
      · have nc1 : s ≠ 2 := by
          have z : ¬ nI s = nI 2 := by simpa only [hnA, nI_add, pk_mul, nI_s1, n0_lit] using c1
          rw [nI_eq (by omega) (by omega)] at z
          omega
        refine blk 7 [(.iconst 1, 0, 0, (nI 1)), (.iadd, 0, 0, 0), (.istore_n 3, 0, 0, 0), (.iload 4, 0, 0, 0), (.iload 6, 0, 0, 0), (.iconst 1, 0, 0, (nI 1))] [] (by decide +kernel) rfl (pc' := 234) (ls' := [some (.ref 72), some (.int pA), some (.int qA), some (.int ((nI i) + (nI 1))), some (.int (nI j)), some (.int (nI l)), some (.int (nI s)), none, none, none]) (st' := [.int (nI 1), .int (nI s), .int (nI j)]) (M' := stm A 72 31 ((A 72 31) + (nI 1))) rfl ⟨trivial, trivial, trivial, trivial, trivial, trivial, trivial⟩ ?_
        refine g_icmp_ne (off := 7) (tgt := 241) (by decide +kernel) (by decide) (fun c2 => ?_) (fun c2 => ?_)
        · have nc2 : s ≠ 1 := by
            have z : ¬ nI s = nI 1 := by simpa only [hnA, nI_add, pk_mul, nI_s1, n0_lit] using c2
            rw [nI_eq (by omega) (by omega)] at z
            omega
          refine blk 7 [(.iconst 1, 0, 0, (nI 1)), (.iadd, 0, 0, 0), (.istore 4, 0, 0, 0), (.iload 6, 0, 0, 0), (.istore 5, 0, 0, 0), (.goto (-236), 13, 0, 0)] [] (by decide +kernel) rfl (pc' := 13) (ls' := [some (.ref 72), some (.int pA), some (.int qA), some (.int ((nI i) + (nI 1))), some (.int ((nI j) + (nI 1))), some (.int (nI s)), some (.int (nI s)), none, none, none]) (st' := []) (M' := stm A 72 31 ((A 72 31) + (nI 1))) rfl ⟨trivial, trivial, trivial, trivial, trivial, trivial, trivial⟩ ?_
          have hv := hcv.1 (by omega)
          have ew : mst M p q pA qA (n + 1) = (i + 1, j + 1, s) := by
            rw [mst, ← hw1, ← hw2, ← hw3, hsg]; simp [*]
          refine G.sub (ls' := [some (.ref 72), some (.int pA), some (.int qA), some (.int (nI (i + 1))), some (.int (nI (j + 1))), some (.int (nI s)), none, none, none, none]) ?_ ⟨rfl, rfl, rfl, congrArg (fun z => some (Value.int z)) (by simp only [nI_add, Nat.add_zero]), congrArg (fun z => some (Value.int z)) (by simp only [nI_add, Nat.add_zero]), rfl, trivial⟩
          refine ih (p + q - ((i + 1) + (j + 1))) (by omega) (n + 1) (i + 1) (j + 1) s _ rfl (by omega) (by omega) hs (by rw [ew]) (by rw [ew]) (by rw [ew]) (by omega) (fun k hk => ?_) (by rw [stm_self, hnA, nI_add]) (fun k w hk hw => ?_) ⟨fun z h1 h2 => by rw [stm_ne h1]; exact hkA.1 z h1 h2, fun f hf => by rw [stm_off hf]; exact hkA.2 f hf⟩
          · by_cases e : k = n
            · subst e; rw [← hw1, ← hw2]; exact ⟨hi, hj, by omega⟩
            · exact ip k (by omega)
          · rw [stm_ne (by decide), hA k w (by omega) hw]
            by_cases e : k = n
            · subst e; rw [if_pos rfl, ew, ← hw1, ← hw2]
            · rw [if_neg e]
        · have nc2 : s = 1 := (nI_eq (by omega) (by omega)).mp (by simpa only [hnA, nI_add, pk_mul, nI_s1, n0_lit] using c2)
          refine blk 7 [(.iconst 0, 0, 0, (nI 0)), (.goto (4), 242, 0, 0), (.iadd, 0, 0, 0), (.istore 4, 0, 0, 0), (.iload 6, 0, 0, 0), (.istore 5, 0, 0, 0), (.goto (-236), 13, 0, 0)] [] (by decide +kernel) rfl (pc' := 13) (ls' := [some (.ref 72), some (.int pA), some (.int qA), some (.int ((nI i) + (nI 1))), some (.int ((nI j) + (nI 0))), some (.int (nI s)), some (.int (nI s)), none, none, none]) (st' := []) (M' := stm A 72 31 ((A 72 31) + (nI 1))) rfl ⟨trivial, trivial, trivial, trivial, trivial, trivial, trivial, trivial⟩ ?_
          have hv := hcv.2.1 nc2
          have ew : mst M p q pA qA (n + 1) = (i + 1, j, s) := by
            rw [mst, ← hw1, ← hw2, ← hw3, hsg]; simp [*]
          refine G.sub (ls' := [some (.ref 72), some (.int pA), some (.int qA), some (.int (nI (i + 1))), some (.int (nI j)), some (.int (nI s)), none, none, none, none]) ?_ ⟨rfl, rfl, rfl, congrArg (fun z => some (Value.int z)) (by simp only [nI_add, Nat.add_zero]), congrArg (fun z => some (Value.int z)) (by simp only [nI_add, Nat.add_zero]), rfl, trivial⟩
          refine ih (p + q - ((i + 1) + j)) (by omega) (n + 1) (i + 1) j s _ rfl (by omega) (by omega) hs (by rw [ew]) (by rw [ew]) (by rw [ew]) (by omega) (fun k hk => ?_) (by rw [stm_self, hnA, nI_add]) (fun k w hk hw => ?_) ⟨fun z h1 h2 => by rw [stm_ne h1]; exact hkA.1 z h1 h2, fun f hf => by rw [stm_off hf]; exact hkA.2 f hf⟩
          · by_cases e : k = n
            · subst e; rw [← hw1, ← hw2]; exact ⟨hi, hj, by omega⟩
            · exact ip k (by omega)
          · rw [stm_ne (by decide), hA k w (by omega) hw]
            by_cases e : k = n
            · subst e; rw [if_pos rfl, ew, ← hw1, ← hw2]
            · rw [if_neg e]
      · have nc1 : s = 2 := (nI_eq (by omega) (by omega)).mp (by simpa only [hnA, nI_add, pk_mul, nI_s1, n0_lit] using c1)
        refine blk 7 [(.iconst 0, 0, 0, (nI 0)), (.goto (4), 227, 0, 0), (.iadd, 0, 0, 0), (.istore_n 3, 0, 0, 0), (.iload 4, 0, 0, 0), (.iload 6, 0, 0, 0), (.iconst 1, 0, 0, (nI 1))] [] (by decide +kernel) rfl (pc' := 234) (ls' := [some (.ref 72), some (.int pA), some (.int qA), some (.int ((nI i) + (nI 0))), some (.int (nI j)), some (.int (nI l)), some (.int (nI s)), none, none, none]) (st' := [.int (nI 1), .int (nI s), .int (nI j)]) (M' := stm A 72 31 ((A 72 31) + (nI 1))) rfl ⟨trivial, trivial, trivial, trivial, trivial, trivial, trivial, trivial⟩ ?_
        refine g_icmp_ne (off := 7) (tgt := 241) (by decide +kernel) (by decide) (fun c3 => ?_) (fun c3 => ?_)
        · have nc3 : s ≠ 1 := by
            have z : ¬ nI s = nI 1 := by simpa only [hnA, nI_add, pk_mul, nI_s1, n0_lit] using c3
            rw [nI_eq (by omega) (by omega)] at z
            omega
          refine blk 7 [(.iconst 1, 0, 0, (nI 1)), (.iadd, 0, 0, 0), (.istore 4, 0, 0, 0), (.iload 6, 0, 0, 0), (.istore 5, 0, 0, 0), (.goto (-236), 13, 0, 0)] [] (by decide +kernel) rfl (pc' := 13) (ls' := [some (.ref 72), some (.int pA), some (.int qA), some (.int ((nI i) + (nI 0))), some (.int ((nI j) + (nI 1))), some (.int (nI s)), some (.int (nI s)), none, none, none]) (st' := []) (M' := stm A 72 31 ((A 72 31) + (nI 1))) rfl ⟨trivial, trivial, trivial, trivial, trivial, trivial, trivial⟩ ?_
          have hv := hcv.2.2 (by omega)
          have ew : mst M p q pA qA (n + 1) = (i, j + 1, s) := by
            rw [mst, ← hw1, ← hw2, ← hw3, hsg]; simp [*]
          refine G.sub (ls' := [some (.ref 72), some (.int pA), some (.int qA), some (.int (nI i)), some (.int (nI (j + 1))), some (.int (nI s)), none, none, none, none]) ?_ ⟨rfl, rfl, rfl, congrArg (fun z => some (Value.int z)) (by simp only [nI_add, Nat.add_zero]), congrArg (fun z => some (Value.int z)) (by simp only [nI_add, Nat.add_zero]), rfl, trivial⟩
          refine ih (p + q - (i + (j + 1))) (by omega) (n + 1) i (j + 1) s _ rfl (by omega) (by omega) hs (by rw [ew]) (by rw [ew]) (by rw [ew]) (by omega) (fun k hk => ?_) (by rw [stm_self, hnA, nI_add]) (fun k w hk hw => ?_) ⟨fun z h1 h2 => by rw [stm_ne h1]; exact hkA.1 z h1 h2, fun f hf => by rw [stm_off hf]; exact hkA.2 f hf⟩
          · by_cases e : k = n
            · subst e; rw [← hw1, ← hw2]; exact ⟨hi, hj, by omega⟩
            · exact ip k (by omega)
          · rw [stm_ne (by decide), hA k w (by omega) hw]
            by_cases e : k = n
            · subst e; rw [if_pos rfl, ew, ← hw1, ← hw2]
            · rw [if_neg e]
        · have nc3 : s = 1 := (nI_eq (by omega) (by omega)).mp (by simpa only [hnA, nI_add, pk_mul, nI_s1, n0_lit] using c3)
          refine blk 7 [(.iconst 0, 0, 0, (nI 0)), (.goto (4), 242, 0, 0), (.iadd, 0, 0, 0), (.istore 4, 0, 0, 0), (.iload 6, 0, 0, 0), (.istore 5, 0, 0, 0), (.goto (-236), 13, 0, 0)] [] (by decide +kernel) rfl (pc' := 13) (ls' := [some (.ref 72), some (.int pA), some (.int qA), some (.int ((nI i) + (nI 0))), some (.int ((nI j) + (nI 0))), some (.int (nI s)), some (.int (nI s)), none, none, none]) (st' := []) (M' := stm A 72 31 ((A 72 31) + (nI 1))) rfl ⟨trivial, trivial, trivial, trivial, trivial, trivial, trivial, trivial⟩ ?_
          exact absurd (nc1.symm.trans nc3) (by decide)
    · have nc1 : p ≤ i := by
        have z : ¬ nI i < nI p := by simpa only [hn, n1, n2, nI_add, pk_mul, nI_s1, n0_lit] using c1
        rw [nI_ltI (by omega) (by omega)] at z
        omega
      refine blk 7 [(.iload 4, 0, 0, 0), (.aload_n 0, 0, 0, 0), (.getfield 127, 7, 28, 0)] [] (by decide +kernel) rfl (pc' := 27) (ls' := [some (.ref 72), some (.int pA), some (.int qA), some (.int (nI i)), some (.int (nI j)), some (.int (nI l)), none, none, none, none]) (st' := [.int (N 72 28), .int (nI j)]) (M' := N) rfl ⟨trivial, trivial, rfl, trivial⟩ ?_
      refine g_icmp_ge (off := 225) (tgt := 252) (by decide +kernel) (by decide) (fun c2 => ?_) (fun c2 => ?_)
      · have nc2 : q ≤ j := (nI_leI (by omega) (by omega)).mp (by simpa only [hn, n1, n2, nI_add, pk_mul, nI_s1, n0_lit] using c2)
        exact g_return (by decide +kernel) rfl ⟨rfl, n, by omega, by rw [← hw1]; omega, by rw [← hw2]; omega, ip, hn, j1, hk⟩
      · have nc2 : j < q := by
          have z : ¬ nI q ≤ nI j := by simpa only [hn, n1, n2, nI_add, pk_mul, nI_s1, n0_lit] using c2
          rw [nI_leI (by omega) (by omega)] at z
          omega
        refine blk 7 [(.iconst 0, 0, 0, (nI 0)), (.istore 6, 0, 0, 0)] [] (by decide +kernel) rfl (pc' := 33) (ls' := [some (.ref 72), some (.int pA), some (.int qA), some (.int (nI i)), some (.int (nI j)), some (.int (nI l)), some (.int (nI 0)), none, none, none]) (st' := []) (M' := N) rfl ⟨trivial, trivial, trivial⟩ ?_
        have hok := hmo i j l hi hj (by omega) hl
        have hs := mch_le M p q pA qA i j l
        refine l_mw1 hm hk hi hj hl hok ?_ _ 0 rfl (by omega) (fun a h => absurd h (by omega))
        have hcv := canB_of (Bool.and_eq_true _ _ ▸ hok).1
        generalize hsg : mch M p q pA qA i j l = s at hs hcv
        refine blk 7 [(.iconst 0, 0, 0, (nI 0)), (.istore 7, 0, 0, 0)] [] (by decide +kernel) rfl (pc' := 84) (ls' := [some (.ref 72), some (.int pA), some (.int qA), some (.int (nI i)), some (.int (nI j)), some (.int (nI l)), some (.int (nI s)), some (.int (nI 0)), none, none]) (st' := []) (M' := N) rfl ⟨trivial, trivial, trivial⟩ ?_
        refine l_mw2 (M := M) (g := fun k w => mcv M (mst M p q pA qA k).1 (mst M p q pA qA k).2.1 (mst M p q pA qA (k + 1)).2.2 w) hs (by omega) (fun h => by have := m3; omega) (fun h => by have := m4; omega) (fun A hkA hnA hA => ?_) _ 0 N rfl (by omega) hk hn j1 (fun c h => absurd h (by omega))
        refine blk 7 [(.aload_n 0, 0, 0, 0), (.dup, 0, 0, 0), (.getfield 161, 7, 31, 0), (.iconst 1, 0, 0, (nI 1)), (.iadd, 0, 0, 0), (.putfield 161, 7, 31, 0), (.iload_n 3, 0, 0, 0), (.iload 6, 0, 0, 0), (.iconst 2, 0, 0, (nI 2))] [] (by decide +kernel) rfl (pc' := 219) (ls' := [some (.ref 72), some (.int pA), some (.int qA), some (.int (nI i)), some (.int (nI j)), some (.int (nI l)), some (.int (nI s)), none, none, none]) (st' := [.int (nI 2), .int (nI s), .int (nI i)]) (M' := stm A 72 31 ((A 72 31) + (nI 1))) rfl ⟨trivial, rfl, rfl, trivial, trivial, rfl, trivial, trivial, trivial, trivial⟩ ?_
        refine g_icmp_ne (off := 7) (tgt := 226) (by decide +kernel) (by decide) (fun c1 => ?_) (fun c1 => ?_)
        · have nc1 : s ≠ 2 := by
            have z : ¬ nI s = nI 2 := by simpa only [hnA, nI_add, pk_mul, nI_s1, n0_lit] using c1
            rw [nI_eq (by omega) (by omega)] at z
            omega
          refine blk 7 [(.iconst 1, 0, 0, (nI 1)), (.iadd, 0, 0, 0), (.istore_n 3, 0, 0, 0), (.iload 4, 0, 0, 0), (.iload 6, 0, 0, 0), (.iconst 1, 0, 0, (nI 1))] [] (by decide +kernel) rfl (pc' := 234) (ls' := [some (.ref 72), some (.int pA), some (.int qA), some (.int ((nI i) + (nI 1))), some (.int (nI j)), some (.int (nI l)), some (.int (nI s)), none, none, none]) (st' := [.int (nI 1), .int (nI s), .int (nI j)]) (M' := stm A 72 31 ((A 72 31) + (nI 1))) rfl ⟨trivial, trivial, trivial, trivial, trivial, trivial, trivial⟩ ?_
          refine g_icmp_ne (off := 7) (tgt := 241) (by decide +kernel) (by decide) (fun c2 => ?_) (fun c2 => ?_)
          · have nc2 : s ≠ 1 := by
              have z : ¬ nI s = nI 1 := by simpa only [hnA, nI_add, pk_mul, nI_s1, n0_lit] using c2
              rw [nI_eq (by omega) (by omega)] at z
              omega
            refine blk 7 [(.iconst 1, 0, 0, (nI 1)), (.iadd, 0, 0, 0), (.istore 4, 0, 0, 0), (.iload 6, 0, 0, 0), (.istore 5, 0, 0, 0), (.goto (-236), 13, 0, 0)] [] (by decide +kernel) rfl (pc' := 13) (ls' := [some (.ref 72), some (.int pA), some (.int qA), some (.int ((nI i) + (nI 1))), some (.int ((nI j) + (nI 1))), some (.int (nI s)), some (.int (nI s)), none, none, none]) (st' := []) (M' := stm A 72 31 ((A 72 31) + (nI 1))) rfl ⟨trivial, trivial, trivial, trivial, trivial, trivial, trivial⟩ ?_
            have hv := hcv.1 (by omega)
            have ew : mst M p q pA qA (n + 1) = (i + 1, j + 1, s) := by
              rw [mst, ← hw1, ← hw2, ← hw3, hsg]; simp [*]
            refine G.sub (ls' := [some (.ref 72), some (.int pA), some (.int qA), some (.int (nI (i + 1))), some (.int (nI (j + 1))), some (.int (nI s)), none, none, none, none]) ?_ ⟨rfl, rfl, rfl, congrArg (fun z => some (Value.int z)) (by simp only [nI_add, Nat.add_zero]), congrArg (fun z => some (Value.int z)) (by simp only [nI_add, Nat.add_zero]), rfl, trivial⟩
            refine ih (p + q - ((i + 1) + (j + 1))) (by omega) (n + 1) (i + 1) (j + 1) s _ rfl (by omega) (by omega) hs (by rw [ew]) (by rw [ew]) (by rw [ew]) (by omega) (fun k hk => ?_) (by rw [stm_self, hnA, nI_add]) (fun k w hk hw => ?_) ⟨fun z h1 h2 => by rw [stm_ne h1]; exact hkA.1 z h1 h2, fun f hf => by rw [stm_off hf]; exact hkA.2 f hf⟩
            · by_cases e : k = n
              · subst e; rw [← hw1, ← hw2]; exact ⟨hi, hj, by omega⟩
              · exact ip k (by omega)
            · rw [stm_ne (by decide), hA k w (by omega) hw]
              by_cases e : k = n
              · subst e; rw [if_pos rfl, ew, ← hw1, ← hw2]
              · rw [if_neg e]
          · have nc2 : s = 1 := (nI_eq (by omega) (by omega)).mp (by simpa only [hnA, nI_add, pk_mul, nI_s1, n0_lit] using c2)
            refine blk 7 [(.iconst 0, 0, 0, (nI 0)), (.goto (4), 242, 0, 0), (.iadd, 0, 0, 0), (.istore 4, 0, 0, 0), (.iload 6, 0, 0, 0), (.istore 5, 0, 0, 0), (.goto (-236), 13, 0, 0)] [] (by decide +kernel) rfl (pc' := 13) (ls' := [some (.ref 72), some (.int pA), some (.int qA), some (.int ((nI i) + (nI 1))), some (.int ((nI j) + (nI 0))), some (.int (nI s)), some (.int (nI s)), none, none, none]) (st' := []) (M' := stm A 72 31 ((A 72 31) + (nI 1))) rfl ⟨trivial, trivial, trivial, trivial, trivial, trivial, trivial, trivial⟩ ?_
            have hv := hcv.2.1 nc2
            have ew : mst M p q pA qA (n + 1) = (i + 1, j, s) := by
              rw [mst, ← hw1, ← hw2, ← hw3, hsg]; simp [*]
            refine G.sub (ls' := [some (.ref 72), some (.int pA), some (.int qA), some (.int (nI (i + 1))), some (.int (nI j)), some (.int (nI s)), none, none, none, none]) ?_ ⟨rfl, rfl, rfl, congrArg (fun z => some (Value.int z)) (by simp only [nI_add, Nat.add_zero]), congrArg (fun z => some (Value.int z)) (by simp only [nI_add, Nat.add_zero]), rfl, trivial⟩
            refine ih (p + q - ((i + 1) + j)) (by omega) (n + 1) (i + 1) j s _ rfl (by omega) (by omega) hs (by rw [ew]) (by rw [ew]) (by rw [ew]) (by omega) (fun k hk => ?_) (by rw [stm_self, hnA, nI_add]) (fun k w hk hw => ?_) ⟨fun z h1 h2 => by rw [stm_ne h1]; exact hkA.1 z h1 h2, fun f hf => by rw [stm_off hf]; exact hkA.2 f hf⟩
            · by_cases e : k = n
              · subst e; rw [← hw1, ← hw2]; exact ⟨hi, hj, by omega⟩
              · exact ip k (by omega)
            · rw [stm_ne (by decide), hA k w (by omega) hw]
              by_cases e : k = n
              · subst e; rw [if_pos rfl, ew, ← hw1, ← hw2]
              · rw [if_neg e]
        · have nc1 : s = 2 := (nI_eq (by omega) (by omega)).mp (by simpa only [hnA, nI_add, pk_mul, nI_s1, n0_lit] using c1)
          refine blk 7 [(.iconst 0, 0, 0, (nI 0)), (.goto (4), 227, 0, 0), (.iadd, 0, 0, 0), (.istore_n 3, 0, 0, 0), (.iload 4, 0, 0, 0), (.iload 6, 0, 0, 0), (.iconst 1, 0, 0, (nI 1))] [] (by decide +kernel) rfl (pc' := 234) (ls' := [some (.ref 72), some (.int pA), some (.int qA), some (.int ((nI i) + (nI 0))), some (.int (nI j)), some (.int (nI l)), some (.int (nI s)), none, none, none]) (st' := [.int (nI 1), .int (nI s), .int (nI j)]) (M' := stm A 72 31 ((A 72 31) + (nI 1))) rfl ⟨trivial, trivial, trivial, trivial, trivial, trivial, trivial, trivial⟩ ?_
          refine g_icmp_ne (off := 7) (tgt := 241) (by decide +kernel) (by decide) (fun c3 => ?_) (fun c3 => ?_)
          · have nc3 : s ≠ 1 := by
              have z : ¬ nI s = nI 1 := by simpa only [hnA, nI_add, pk_mul, nI_s1, n0_lit] using c3
              rw [nI_eq (by omega) (by omega)] at z
              omega
            refine blk 7 [(.iconst 1, 0, 0, (nI 1)), (.iadd, 0, 0, 0), (.istore 4, 0, 0, 0), (.iload 6, 0, 0, 0), (.istore 5, 0, 0, 0), (.goto (-236), 13, 0, 0)] [] (by decide +kernel) rfl (pc' := 13) (ls' := [some (.ref 72), some (.int pA), some (.int qA), some (.int ((nI i) + (nI 0))), some (.int ((nI j) + (nI 1))), some (.int (nI s)), some (.int (nI s)), none, none, none]) (st' := []) (M' := stm A 72 31 ((A 72 31) + (nI 1))) rfl ⟨trivial, trivial, trivial, trivial, trivial, trivial, trivial⟩ ?_
            have hv := hcv.2.2 (by omega)
            have ew : mst M p q pA qA (n + 1) = (i, j + 1, s) := by
              rw [mst, ← hw1, ← hw2, ← hw3, hsg]; simp [*]
            refine G.sub (ls' := [some (.ref 72), some (.int pA), some (.int qA), some (.int (nI i)), some (.int (nI (j + 1))), some (.int (nI s)), none, none, none, none]) ?_ ⟨rfl, rfl, rfl, congrArg (fun z => some (Value.int z)) (by simp only [nI_add, Nat.add_zero]), congrArg (fun z => some (Value.int z)) (by simp only [nI_add, Nat.add_zero]), rfl, trivial⟩
            refine ih (p + q - (i + (j + 1))) (by omega) (n + 1) i (j + 1) s _ rfl (by omega) (by omega) hs (by rw [ew]) (by rw [ew]) (by rw [ew]) (by omega) (fun k hk => ?_) (by rw [stm_self, hnA, nI_add]) (fun k w hk hw => ?_) ⟨fun z h1 h2 => by rw [stm_ne h1]; exact hkA.1 z h1 h2, fun f hf => by rw [stm_off hf]; exact hkA.2 f hf⟩
            · by_cases e : k = n
              · subst e; rw [← hw1, ← hw2]; exact ⟨hi, hj, by omega⟩
              · exact ip k (by omega)
            · rw [stm_ne (by decide), hA k w (by omega) hw]
              by_cases e : k = n
              · subst e; rw [if_pos rfl, ew, ← hw1, ← hw2]
              · rw [if_neg e]
          · have nc3 : s = 1 := (nI_eq (by omega) (by omega)).mp (by simpa only [hnA, nI_add, pk_mul, nI_s1, n0_lit] using c3)
            refine blk 7 [(.iconst 0, 0, 0, (nI 0)), (.goto (4), 242, 0, 0), (.iadd, 0, 0, 0), (.istore 4, 0, 0, 0), (.iload 6, 0, 0, 0), (.istore 5, 0, 0, 0), (.goto (-236), 13, 0, 0)] [] (by decide +kernel) rfl (pc' := 13) (ls' := [some (.ref 72), some (.int pA), some (.int qA), some (.int ((nI i) + (nI 0))), some (.int ((nI j) + (nI 0))), some (.int (nI s)), some (.int (nI s)), none, none, none]) (st' := []) (M' := stm A 72 31 ((A 72 31) + (nI 1))) rfl ⟨trivial, trivial, trivial, trivial, trivial, trivial, trivial, trivial⟩ ?_
            exact absurd (nc1.symm.trans nc3) (by decide)
theorem s_mwalk (M : Mem) {p q : Nat} (pA qA : Int32) (hm : mgr M p q) (hpq : p + q ≤ 60) (hmo : mOK M p q pA qA) : Spec mX7_walk [.ref 72, .int pA, .int qA] M (mwalkP M p q pA qA) := by
  refine Spec.of (by decide) (by simp [Value.category]) (Nat.le_of_ble_eq_true rfl) ?_
  refine blk 7 [(.iconst 0, 0, 0, (nI 0)), (.istore_n 3, 0, 0, 0), (.iconst 0, 0, 0, (nI 0)), (.istore 4, 0, 0, 0), (.iconst 0, 0, 0, (nI 0)), (.istore 5, 0, 0, 0), (.aload_n 0, 0, 0, 0), (.iconst 0, 0, 0, (nI 0)), (.putfield 161, 7, 31, 0)] [] (by decide +kernel) rfl (pc' := 13) (ls' := [some (.ref 72), some (.int pA), some (.int qA), some (.int (nI 0)), some (.int (nI 0)), some (.int (nI 0)), none, none, none, none]) (st' := []) (M' := stm M 72 31 (nI 0)) rfl ⟨trivial, trivial, trivial, trivial, trivial, trivial, trivial, trivial, rfl, trivial⟩ ?_
  exact l_mw hm hpq hmo _ 0 0 0 0 _ rfl (by omega) (by omega) (by omega) rfl rfl rfl (by omega) (fun k h => absurd h (by omega)) (by rw [stm_self]) (fun k w h => absurd h (by omega)) ⟨fun z h1 _ => by rw [stm_ne h1], fun f hf => by rw [stm_off hf]⟩
end
section
/-! the reference: merge, plainFactors, alone, mergeWords -/
def mwlk (T : Mem) (p q : Nat) (pA qA : Int32) (n : Nat) : Prop := n ≤ p + q ∧ (mst T p q pA qA n).1 = p ∧ (mst T p q pA qA n).2.1 = q ∧ ∀ k, k < n → ((mst T p q pA qA k).1 ≤ p ∧ (mst T p q pA qA k).2.1 ≤ q ∧ ((mst T p q pA qA k).1 < p ∨ (mst T p q pA qA k).2.1 < q))
def mergeP (M : Mem) (p q : Nat) : Option Value → Mem → Prop := fun r F => ∃ (R T : Mem) (n : Nat), prepP M p q none R ∧ keepM R T ∧ tbm T p q (psum (whF M (M 72 25) 39) 5) (psum (whF M (M 72 26) 39) 5) (fun _ _ => True) ∧ mwlk T p q (psum (whF M (M 72 25) 39) 5) (psum (whF M (M 72 26) 39) 5) n ∧ r = some (.int (T 40 0)) ∧ F 72 31 = nI n ∧
  (∀ k w, k < n → w < 5 → F 92 (60 * w + k) = mcv M (mst T p q (psum (whF M (M 72 25) 39) 5) (psum (whF M (M 72 26) 39) 5) k).1 (mst T p q (psum (whF M (M 72 25) 39) 5) (psum (whF M (M 72 26) 39) 5) k).2.1 (mst T p q (psum (whF M (M 72 25) 39) 5) (psum (whF M (M 72 26) 39) 5) (k + 1)).2.2 w) ∧
  (∀ z, z ≠ 72 → z ≠ 40 → (z < 92 ∨ 95 < z) → F z = M z) ∧ ∀ f, f ≠ 31 → F 72 f = M 72 f
theorem s_mmerge (M : Mem) {p q : Nat} (hp6 : p ≤ 60) (hq6 : q ≤ 60) (hpq : p + q ≤ 60) (hc : mcell M p q) (hp : M 72 27 = nI p) (hq : M 72 28 = nI q) : Spec mX7_merge [.ref 72] M (mergeP M p q) := by
  refine Spec.of (by decide) (by simp [Value.category]) (Nat.le_of_ble_eq_true rfl) ?_
  refine blk 7 [(.aload_n 0, 0, 0, 0)] [] (by decide +kernel) rfl (pc' := 1) (ls' := [some (.ref 72), none, none, none, none, none, none, none, none, none]) (st' := [.ref 72]) (M' := M) rfl ⟨trivial, trivial⟩ ?_
  refine g_callV (s_prepare M (p := p) (q := q) hp6 hq6 hc hp hq) ok_X7_merge_X7_prepare (by decide +kernel) rfl (c := 7) rfl (by decide) rfl (Nat.le_of_ble_eq_true rfl) (fun r R h => ?_) rfl
  have hR : prepP M p q none R := by have e := h.1; rw [e] at h; exact h
  rw [h.1]
  have e72 : R 72 = M 72 := hR.2.2.2.2 72 (by omega)
  have e39 : R 39 = M 39 := hR.2.2.2.2 39 (by omega)
  have eA : ∀ S, psum (whF R S 39) 5 = psum (whF M S 39) 5 := fun S => psum_congr (fun j _ => by unfold whF; rw [e39])
  show G _ 4 [some (.ref 72), none, none, none, none, none, none, none, none, none] [] R _
  refine blk 7 [(.aload_n 0, 0, 0, 0), (.aload_n 0, 0, 0, 0), (.getfield 118, 7, 25, 0)] [] (by decide +kernel) rfl (pc' := 9) (ls' := [some (.ref 72), none, none, none, none, none, none, none, none, none]) (st' := [.int (R 72 25), .ref 72]) (M' := R) rfl ⟨trivial, trivial, rfl, trivial⟩ ?_
  refine g_callV (s_wos R (R 72 25)) ok_X7_merge_X7_weightOfSet (by decide +kernel) rfl (c := 7) rfl (by decide) rfl (Nat.le_of_ble_eq_true rfl) (fun r M' h => ?_) rfl
  obtain ⟨hr, hM⟩ := h
  rw [hr, hM]
  show G _ 12 [some (.ref 72), none, none, none, none, none, none, none, none, none] [.int (psum (whF R (R 72 25) 39) 5)] R _
  rw [eA, show R 72 25 = M 72 25 by rw [e72]]
  refine blk 7 [(.istore_n 1, 0, 0, 0), (.aload_n 0, 0, 0, 0), (.aload_n 0, 0, 0, 0), (.getfield 124, 7, 26, 0)] [] (by decide +kernel) rfl (pc' := 18) (ls' := [some (.ref 72), some (.int (psum (whF M (M 72 25) 39) 5)), none, none, none, none, none, none, none, none]) (st' := [.int (R 72 26), .ref 72]) (M' := R) rfl ⟨trivial, trivial, trivial, rfl, trivial⟩ ?_
  refine g_callV (s_wos R (R 72 26)) ok_X7_merge_X7_weightOfSet (by decide +kernel) rfl (c := 7) rfl (by decide) rfl (Nat.le_of_ble_eq_true rfl) (fun r M' h => ?_) rfl
  obtain ⟨hr, hM⟩ := h
  rw [hr, hM]
  show G _ 21 [some (.ref 72), some (.int (psum (whF M (M 72 25) 39) 5)), none, none, none, none, none, none, none, none] [.int (psum (whF R (R 72 26) 39) 5)] R _
  rw [eA, show R 72 26 = M 72 26 by rw [e72]]
  refine blk 7 [(.istore_n 2, 0, 0, 0), (.aload_n 0, 0, 0, 0), (.getfield 121, 7, 27, 0), (.istore_n 3, 0, 0, 0)] [] (by decide +kernel) rfl (pc' := 27) (ls' := [some (.ref 72), some (.int (psum (whF M (M 72 25) 39) 5)), some (.int (psum (whF M (M 72 26) 39) 5)), some (.int (R 72 27)), none, none, none, none, none, none]) (st' := []) (M' := R) rfl ⟨trivial, trivial, rfl, trivial, trivial⟩ ?_
  have hm : mgr R p q := by unfold mgr; rw [e72]; exact ⟨hp, hq, hp6, hq6⟩
  refine G.sub (ls' := [some (.ref 72), some (.int (psum (whF M (M 72 25) 39) 5)), some (.int (psum (whF M (M 72 26) 39) 5)), some (.int (nI (p + 1) - nI 1)), none, none, none, none, none, none]) ?_ ⟨rfl, rfl, rfl, congrArg (fun z => some (Value.int z)) (hm.1.trans (nI_s1 p).symm), trivial⟩
  refine l_mi hm (fun T k1 k2 => ?_) (p + 1) R (Nat.le_refl _) (fun _ _ => rfl) (fun i j l hi _ _ h => absurd h (by omega))
  have hmT : mgr T p q := by unfold mgr; rw [k1 72 (by decide)]; exact hm
  refine blk 7 [(.aload_n 0, 0, 0, 0), (.iload_n 1, 0, 0, 0), (.iload_n 2, 0, 0, 0)] [] (by decide +kernel) rfl (pc' := 160) (ls' := [some (.ref 72), some (.int (psum (whF M (M 72 25) 39) 5)), some (.int (psum (whF M (M 72 26) 39) 5)), none, none, none, none, none, none, none]) (st' := [.int (psum (whF M (M 72 26) 39) 5), .int (psum (whF M (M 72 25) 39) 5), .ref 72]) (M' := T) rfl ⟨trivial, trivial, trivial, trivial⟩ ?_
  refine g_callV (s_mwalk T (p := p) (q := q) (psum (whF M (M 72 25) 39) 5) (psum (whF M (M 72 26) 39) 5) hmT hpq (tbm_ok k2)) ok_X7_merge_X7_walk (by decide +kernel) rfl (c := 7) rfl (by decide) rfl (Nat.le_of_ble_eq_true rfl) (fun r F h => ?_) rfl
  obtain ⟨hr, n, n1, n2, n3, n4, f1, f2, f3⟩ := h
  rw [hr]
  show G _ 163 [some (.ref 72), some (.int (psum (whF M (M 72 25) 39) 5)), some (.int (psum (whF M (M 72 26) 39) 5)), none, none, none, none, none, none, none] [] F _
  refine blk 7 [(.aload_n 0, 0, 0, 0), (.getfield 83, 7, 36, 0), (.aload_n 0, 0, 0, 0), (.iconst 0, 0, 0, (nI 0)), (.iconst 0, 0, 0, (nI 0)), (.iconst 0, 0, 0, (nI 0))] [] (by decide +kernel) rfl (pc' := 171) (ls' := [some (.ref 72), some (.int (psum (whF M (M 72 25) 39) 5)), some (.int (psum (whF M (M 72 26) 39) 5)), none, none, none, none, none, none, none]) (st' := [.int (nI 0), .int (nI 0), .int (nI 0), .ref 72, .ref 40]) (M' := F) rfl ⟨trivial, rfl, trivial, trivial, trivial, trivial, trivial⟩ ?_
  refine g_callV (s_entry F _ _ _) ok_X7_merge_X7_entry (by decide +kernel) rfl (c := 7) rfl (by decide) rfl (Nat.le_of_ble_eq_true rfl) (fun r M' h => ?_) rfl
  obtain ⟨hr, hM⟩ := h
  rw [hr, hM]
  show G _ 174 [some (.ref 72), some (.int (psum (whF M (M 72 25) 39) 5)), some (.int (psum (whF M (M 72 26) 39) 5)), none, none, none, none, none, none, none] [.int (nI 3 * (nI 61 * (nI 0) + (nI 0)) + (nI 0)), .ref 40] F _
  refine blk 7 [(.iaload, 0, 0, 0)] [0] (by decide +kernel) rfl (pc' := 175) (ls' := [some (.ref 72), some (.int (psum (whF M (M 72 25) 39) 5)), some (.int (psum (whF M (M 72 26) 39) 5)), none, none, none, none, none, none, none]) (st' := [.int (F 40 0)]) (M' := F) rfl ⟨⟨(by decide), (by decide)⟩, trivial⟩ ?_
  refine g_ireturn (by decide +kernel) rfl rfl ⟨R, T, n, hR, k1, k2, ⟨n1, n2, n3, n4⟩, ?_, f1, fun k w hk hw => ?_, fun z h1 h2 h3 => ?_, fun f hf => ?_⟩
  · rw [f3.1 40 (by decide) (by decide)]
  · rw [f2 k w hk hw]; unfold mcv; rw [k1 72 (by decide), k1 90 (by decide), k1 91 (by decide), e72, hR.2.2.2.2 90 (by omega), hR.2.2.2.2 91 (by omega)]
  · rw [f3.1 z h1 (by omega), k1 z h2, hR.2.2.2.2 z (by omega)]
  · rw [f3.2 f hf, k1 72 (by decide), e72]
theorem l_plain {M : Mem} : ∀ d i N, d = 5 - i → i ≤ 5 → (∀ a, a < i → N 39 a = 1) → (∀ z, z ≠ 39 → N z = M z) → G mX7_plainFactors 2 [some (.ref 72), some (.int (nI i))] [] N (fun r N => r = none ∧ (∀ a, a < 5 → N 39 a = 1) ∧ ∀ z, z ≠ 39 → N z = M z) := by
  intro d
  induction d using Nat.strongRecOn with
  | ind d ih =>
    intro i N hd hi j1 j2
    refine blk 7 [(.iload_n 1, 0, 0, 0), (.iconst 5, 0, 0, (nI 5))] [] (by decide +kernel) rfl (pc' := 4) (ls' := [some (.ref 72), some (.int (nI i))]) (st' := [.int (nI 5), .int (nI i)]) (M' := N) rfl ⟨trivial, trivial, trivial⟩ ?_
    refine g_icmp_ge (off := 16) (tgt := 20) (by decide +kernel) (by decide) (fun c1 => ?_) (fun c1 => ?_)
    · have nc1 : 5 ≤ i := (nI_leI (by omega) (by omega)).mp (by simpa only [nI_add, pk_mul, nI_s1, n0_lit] using c1)
      have e : i = 5 := by omega
      subst e
      exact g_return (by decide +kernel) rfl ⟨rfl, j1, j2⟩
    · have nc1 : i < 5 := by
        have z : ¬ nI 5 ≤ nI i := by simpa only [nI_add, pk_mul, nI_s1, n0_lit] using c1
        rw [nI_leI (by omega) (by omega)] at z
        omega
      refine blk 7 [(.aload_n 0, 0, 0, 0), (.getfield 86, 7, 37, 0), (.iload_n 1, 0, 0, 0), (.iconst 1, 0, 0, (nI 1)), (.iastore, 0, 0, 0), (.iinc 1 1, 0, 0, (nI 1)), (.goto (-15), 2, 0, 0)] [i] (by decide +kernel) rfl (pc' := 2) (ls' := [some (.ref 72), some (.int (nI i + nI 1))]) (st' := []) (M' := stm N 39 i (nI 1)) rfl ⟨trivial, rfl, trivial, trivial, ⟨rfl, (by show _ < 5; omega), by decide⟩, trivial, trivial, trivial⟩ ?_
      refine G.sub (ls' := [some (.ref 72), some (.int (nI (i + 1)))]) ?_ ⟨rfl, congrArg (fun z => some (Value.int z)) (by simp only [nI_add, nI_s1]), trivial⟩
      refine ih (d - 1) (by omega) (i + 1) _ (by omega) (by omega) (fun a ha => ?_) (fun z hz => by rw [stm_ne hz]; exact j2 z hz)
      by_cases e : a = i
      · subst e; rw [stm_self]; exact n1_lit
      · rw [stm_off e]; exact j1 a (by omega)
theorem s_plain (M : Mem) : Spec mX7_plainFactors [.ref 72] M (fun r N => r = none ∧ (∀ a, a < 5 → N 39 a = 1) ∧ ∀ z, z ≠ 39 → N z = M z) := by
  refine Spec.of (by decide) (by simp [Value.category]) (Nat.le_of_ble_eq_true rfl) ?_
  refine blk 7 [(.iconst 0, 0, 0, (nI 0)), (.istore_n 1, 0, 0, 0)] [] (by decide +kernel) rfl (pc' := 2) (ls' := [some (.ref 72), some (.int (nI 0))]) (st' := []) (M' := M) rfl ⟨trivial, trivial, trivial⟩ ?_
  exact l_plain _ 0 M rfl (by omega) (fun a h => absurd h (by omega)) (fun _ _ => rfl)
def aloneP (M : Mem) (c f wf i n : Nat) : Option Value → Mem → Prop := fun r N => r = none ∧ N 72 f = nI 1 <<< (nI i &&& 31) ∧ N 72 wf = nI n ∧ (∀ a, a < n → N c (60 * i + a) = M 74 (12 * i + a)) ∧ (∀ g, g ≠ f → g ≠ wf → N 72 g = M 72 g) ∧ ∀ z, z ≠ 72 → z ≠ c → N z = M z
theorem l_alone1 {M : Mem} {i n : Nat} (hi : i < 5) (hn12 : n ≤ 12) (hn0 : M 73 i = nI n) : ∀ d k N, d = n - k → k ≤ n → (∀ a, a < k → N 90 (60 * i + a) = M 74 (12 * i + a)) → (∀ z, z ≠ 90 → N z = M z) → G mX7_alone 2 [some (.ref 72), some (.int (nI 1)), some (.int (nI i)), some (.int (nI k))] [] N (aloneP M 90 25 27 i n) := by
  intro d
  induction d using Nat.strongRecOn with
  | ind d ih =>
    intro k N hd hk j1 j2
    have hn : N 73 i = nI n := by rw [j2 73 (by decide)]; exact hn0
    refine blk 7 [(.iload_n 3, 0, 0, 0), (.aload_n 0, 0, 0, 0), (.getfield 7, 7, 1, 0), (.iload_n 2, 0, 0, 0), (.iaload, 0, 0, 0)] [i] (by decide +kernel) rfl (pc' := 9) (ls' := [some (.ref 72), some (.int (nI 1)), some (.int (nI i)), some (.int (nI k))]) (st' := [.int (N 73 i), .int (nI k)]) (M' := N) rfl ⟨trivial, trivial, rfl, trivial, ⟨rfl, (by show _ < 5; omega)⟩, trivial⟩ ?_
    refine g_icmp_ge (off := 60) (tgt := 69) (by decide +kernel) (by decide) (fun c1 => ?_) (fun c1 => ?_)
    · have nc1 : n ≤ k := (nI_leI (by omega) (by omega)).mp (by simpa only [hn, nI_add, pk_mul, nI_s1, n0_lit] using c1)
      refine blk 7 [(.iload_n 1, 0, 0, 0)] [] (by decide +kernel) rfl (pc' := 70) (ls' := [some (.ref 72), some (.int (nI 1)), some (.int (nI i)), some (.int (nI k))]) (st' := [.int (nI 1)]) (M' := N) rfl ⟨trivial, trivial⟩ ?_
      refine g_if_eq (off := 23) (tgt := 93) (by decide +kernel) (by decide) (fun c2 => ?_) (fun c2 => ?_)
      · exact absurd c2 (by decide +kernel)
      · refine blk 7 [(.aload_n 0, 0, 0, 0), (.iconst 1, 0, 0, (nI 1)), (.iload_n 2, 0, 0, 0), (.ishl, 0, 0, 0), (.putfield 118, 7, 25, 0), (.aload_n 0, 0, 0, 0), (.aload_n 0, 0, 0, 0), (.getfield 7, 7, 1, 0), (.iload_n 2, 0, 0, 0), (.iaload, 0, 0, 0), (.putfield 121, 7, 27, 0), (.goto (20), 110, 0, 0)] [i] (by decide +kernel) rfl (pc' := 110) (ls' := [some (.ref 72), some (.int (nI 1)), some (.int (nI i)), some (.int (nI k))]) (st' := []) (M' := stm (stm N 72 25 ((nI 1) <<< ((nI i) &&& 31))) 72 27 (N 73 i)) rfl ⟨trivial, trivial, trivial, trivial, rfl, trivial, trivial, rfl, trivial, ⟨rfl, (by show _ < 5; omega)⟩, rfl, trivial, trivial⟩ ?_
        have e : k = n := by omega
        subst e
        refine g_return (by decide +kernel) rfl ⟨rfl, ?_, ?_, ?_, ?_, ?_⟩
        · rw [stm_off (by decide), stm_self]
        · rw [stm_self]; exact hn
        · intro a ha; rw [stm_ne (by decide), stm_ne (by decide)]; exact j1 a ha
        · intro g h1 h2; rw [stm_off h2, stm_off h1, j2 72 (by decide)]
        · intro z h1 h2; rw [stm_ne h1, stm_ne h1]; exact j2 z h2
    · have nc1 : k < n := by
        have z : ¬ nI n ≤ nI k := by simpa only [hn, nI_add, pk_mul, nI_s1, n0_lit] using c1
        rw [nI_leI (by omega) (by omega)] at z
        omega
      refine blk 7 [(.iload_n 1, 0, 0, 0)] [] (by decide +kernel) rfl (pc' := 13) (ls' := [some (.ref 72), some (.int (nI 1)), some (.int (nI i)), some (.int (nI k))]) (st' := [.int (nI 1)]) (M' := N) rfl ⟨trivial, trivial⟩ ?_
      refine g_if_eq (off := 28) (tgt := 41) (by decide +kernel) (by decide) (fun c3 => ?_) (fun c3 => ?_)
      · exact absurd c3 (by decide +kernel)
      · refine blk 7 [(.aload_n 0, 0, 0, 0), (.getfield 65, 7, 29, 0), (.bipush 60, 0, 0, (nI 60)), (.iload_n 2, 0, 0, 0), (.imul, 0, 0, 0), (.iload_n 3, 0, 0, 0), (.iadd, 0, 0, 0), (.aload_n 0, 0, 0, 0), (.getfield 13, 7, 2, 0), (.bipush 12, 0, 0, (nI 12)), (.iload_n 2, 0, 0, 0), (.imul, 0, 0, 0), (.iload_n 3, 0, 0, 0), (.iadd, 0, 0, 0), (.iaload, 0, 0, 0), (.iastore, 0, 0, 0), (.goto (25), 63, 0, 0), (.iinc 3 1, 0, 0, (nI 1)), (.goto (-64), 2, 0, 0)] [12 * i + k, 60 * i + k] (by decide +kernel) rfl (pc' := 2) (ls' := [some (.ref 72), some (.int (nI 1)), some (.int (nI i)), some (.int (nI k + nI 1))]) (st' := []) (M' := stm N 90 (60 * i + k) (N 74 (12 * i + k))) rfl ⟨trivial, rfl, trivial, trivial, trivial, trivial, trivial, trivial, rfl, trivial, trivial, trivial, trivial, trivial, ⟨(by simp only [hn, nI_add, pk_mul, nI_s1, Nat.reduceAdd, Nat.reduceMul]), (by show _ < 60; omega)⟩, ⟨(by simp only [hn, nI_add, pk_mul, nI_s1, Nat.reduceAdd, Nat.reduceMul]), (by show _ < 300; omega), by decide⟩, trivial, trivial, trivial, trivial⟩ ?_
        refine G.sub (ls' := [some (.ref 72), some (.int (nI 1)), some (.int (nI i)), some (.int (nI (k + 1)))]) ?_ ⟨rfl, rfl, rfl, congrArg (fun z => some (Value.int z)) (by simp only [nI_add, nI_s1]), trivial⟩
        refine ih (d - 1) (by omega) (k + 1) _ (by omega) (by omega) (fun a ha => ?_) (fun z hz => by rw [stm_ne hz]; exact j2 z hz)
        by_cases e : a = k
        · subst e; rw [stm_self, j2 74 (by decide)]
        · rw [stm_off (by omega)]; exact j1 a (by omega)
theorem s_alone1 (M : Mem) {i n : Nat} (hi : i < 5) (hn12 : n ≤ 12) (hn : M 73 i = nI n) : Spec mX7_alone [.ref 72, .int (nI 1), .int (nI i)] M (aloneP M 90 25 27 i n) := by
  refine Spec.of (by decide) (by simp [Value.category]) (Nat.le_of_ble_eq_true rfl) ?_
  refine blk 7 [(.iconst 0, 0, 0, (nI 0)), (.istore_n 3, 0, 0, 0)] [] (by decide +kernel) rfl (pc' := 2) (ls' := [some (.ref 72), some (.int (nI 1)), some (.int (nI i)), some (.int (nI 0))]) (st' := []) (M' := M) rfl ⟨trivial, trivial, trivial⟩ ?_
  exact l_alone1 hi hn12 hn _ 0 M rfl (by omega) (fun a h => absurd h (by omega)) (fun _ _ => rfl)
theorem l_alone0 {M : Mem} {i n : Nat} (hi : i < 5) (hn12 : n ≤ 12) (hn0 : M 73 i = nI n) : ∀ d k N, d = n - k → k ≤ n → (∀ a, a < k → N 91 (60 * i + a) = M 74 (12 * i + a)) → (∀ z, z ≠ 91 → N z = M z) → G mX7_alone 2 [some (.ref 72), some (.int (nI 0)), some (.int (nI i)), some (.int (nI k))] [] N (aloneP M 91 26 28 i n) := by
  intro d
  induction d using Nat.strongRecOn with
  | ind d ih =>
    intro k N hd hk j1 j2
    have hn : N 73 i = nI n := by rw [j2 73 (by decide)]; exact hn0
    refine blk 7 [(.iload_n 3, 0, 0, 0), (.aload_n 0, 0, 0, 0), (.getfield 7, 7, 1, 0), (.iload_n 2, 0, 0, 0), (.iaload, 0, 0, 0)] [i] (by decide +kernel) rfl (pc' := 9) (ls' := [some (.ref 72), some (.int (nI 0)), some (.int (nI i)), some (.int (nI k))]) (st' := [.int (N 73 i), .int (nI k)]) (M' := N) rfl ⟨trivial, trivial, rfl, trivial, ⟨rfl, (by show _ < 5; omega)⟩, trivial⟩ ?_
    refine g_icmp_ge (off := 60) (tgt := 69) (by decide +kernel) (by decide) (fun c1 => ?_) (fun c1 => ?_)
    · have nc1 : n ≤ k := (nI_leI (by omega) (by omega)).mp (by simpa only [hn, nI_add, pk_mul, nI_s1, n0_lit] using c1)
      refine blk 7 [(.iload_n 1, 0, 0, 0)] [] (by decide +kernel) rfl (pc' := 70) (ls' := [some (.ref 72), some (.int (nI 0)), some (.int (nI i)), some (.int (nI k))]) (st' := [.int (nI 0)]) (M' := N) rfl ⟨trivial, trivial⟩ ?_
      refine g_if_eq (off := 23) (tgt := 93) (by decide +kernel) (by decide) (fun c2 => ?_) (fun c2 => ?_)
      · refine blk 7 [(.aload_n 0, 0, 0, 0), (.iconst 1, 0, 0, (nI 1)), (.iload_n 2, 0, 0, 0), (.ishl, 0, 0, 0), (.putfield 124, 7, 26, 0), (.aload_n 0, 0, 0, 0), (.aload_n 0, 0, 0, 0), (.getfield 7, 7, 1, 0), (.iload_n 2, 0, 0, 0), (.iaload, 0, 0, 0), (.putfield 127, 7, 28, 0)] [i] (by decide +kernel) rfl (pc' := 110) (ls' := [some (.ref 72), some (.int (nI 0)), some (.int (nI i)), some (.int (nI k))]) (st' := []) (M' := stm (stm N 72 26 ((nI 1) <<< ((nI i) &&& 31))) 72 28 (N 73 i)) rfl ⟨trivial, trivial, trivial, trivial, rfl, trivial, trivial, rfl, trivial, ⟨rfl, (by show _ < 5; omega)⟩, rfl, trivial⟩ ?_
        have e : k = n := by omega
        subst e
        refine g_return (by decide +kernel) rfl ⟨rfl, ?_, ?_, ?_, ?_, ?_⟩
        · rw [stm_off (by decide), stm_self]
        · rw [stm_self]; exact hn
        · intro a ha; rw [stm_ne (by decide), stm_ne (by decide)]; exact j1 a ha
        · intro g h1 h2; rw [stm_off h2, stm_off h1, j2 72 (by decide)]
        · intro z h1 h2; rw [stm_ne h1, stm_ne h1]; exact j2 z h2
      · exact absurd (by decide +kernel) c2
    · have nc1 : k < n := by
        have z : ¬ nI n ≤ nI k := by simpa only [hn, nI_add, pk_mul, nI_s1, n0_lit] using c1
        rw [nI_leI (by omega) (by omega)] at z
        omega
      refine blk 7 [(.iload_n 1, 0, 0, 0)] [] (by decide +kernel) rfl (pc' := 13) (ls' := [some (.ref 72), some (.int (nI 0)), some (.int (nI i)), some (.int (nI k))]) (st' := [.int (nI 0)]) (M' := N) rfl ⟨trivial, trivial⟩ ?_
      refine g_if_eq (off := 28) (tgt := 41) (by decide +kernel) (by decide) (fun c3 => ?_) (fun c3 => ?_)
      · refine blk 7 [(.aload_n 0, 0, 0, 0), (.getfield 68, 7, 30, 0), (.bipush 60, 0, 0, (nI 60)), (.iload_n 2, 0, 0, 0), (.imul, 0, 0, 0), (.iload_n 3, 0, 0, 0), (.iadd, 0, 0, 0), (.aload_n 0, 0, 0, 0), (.getfield 13, 7, 2, 0), (.bipush 12, 0, 0, (nI 12)), (.iload_n 2, 0, 0, 0), (.imul, 0, 0, 0), (.iload_n 3, 0, 0, 0), (.iadd, 0, 0, 0), (.iaload, 0, 0, 0), (.iastore, 0, 0, 0), (.iinc 3 1, 0, 0, (nI 1)), (.goto (-64), 2, 0, 0)] [12 * i + k, 60 * i + k] (by decide +kernel) rfl (pc' := 2) (ls' := [some (.ref 72), some (.int (nI 0)), some (.int (nI i)), some (.int (nI k + nI 1))]) (st' := []) (M' := stm N 91 (60 * i + k) (N 74 (12 * i + k))) rfl ⟨trivial, rfl, trivial, trivial, trivial, trivial, trivial, trivial, rfl, trivial, trivial, trivial, trivial, trivial, ⟨(by simp only [hn, nI_add, pk_mul, nI_s1, Nat.reduceAdd, Nat.reduceMul]), (by show _ < 60; omega)⟩, ⟨(by simp only [hn, nI_add, pk_mul, nI_s1, Nat.reduceAdd, Nat.reduceMul]), (by show _ < 300; omega), by decide⟩, trivial, trivial, trivial⟩ ?_
        refine G.sub (ls' := [some (.ref 72), some (.int (nI 0)), some (.int (nI i)), some (.int (nI (k + 1)))]) ?_ ⟨rfl, rfl, rfl, congrArg (fun z => some (Value.int z)) (by simp only [nI_add, nI_s1]), trivial⟩
        refine ih (d - 1) (by omega) (k + 1) _ (by omega) (by omega) (fun a ha => ?_) (fun z hz => by rw [stm_ne hz]; exact j2 z hz)
        by_cases e : a = k
        · subst e; rw [stm_self, j2 74 (by decide)]
        · rw [stm_off (by omega)]; exact j1 a (by omega)
      · exact absurd (by decide +kernel) c3
theorem s_alone0 (M : Mem) {i n : Nat} (hi : i < 5) (hn12 : n ≤ 12) (hn : M 73 i = nI n) : Spec mX7_alone [.ref 72, .int (nI 0), .int (nI i)] M (aloneP M 91 26 28 i n) := by
  refine Spec.of (by decide) (by simp [Value.category]) (Nat.le_of_ble_eq_true rfl) ?_
  refine blk 7 [(.iconst 0, 0, 0, (nI 0)), (.istore_n 3, 0, 0, 0)] [] (by decide +kernel) rfl (pc' := 2) (ls' := [some (.ref 72), some (.int (nI 0)), some (.int (nI i)), some (.int (nI 0))]) (st' := []) (M' := M) rfl ⟨trivial, trivial, trivial⟩ ?_
  exact l_alone0 hi hn12 hn _ 0 M rfl (by omega) (fun a h => absurd h (by omega)) (fun _ _ => rfl)
end
section
/-! the reference: small methods -/
/-- the number of a letter -/
def numF (c : Int32) : Int32 := if c = nI 65 then nI 0 else if c = nI 67 then nI 1 else if c = nI 71 then nI 2 else if c = nI 84 then nI 3 else -1
def chrF (x : Int32) : Int32 := if x = 0 then nI 65 else if x = nI 1 then nI 67 else if x = nI 2 then nI 71 else if x = nI 3 then nI 84 else nI 45
theorem numF_ok (c : Int32) : (numF c = -1) ∨ ∃ a, a < 4 ∧ numF c = nI a := by
  unfold numF
  split
  · exact Or.inr ⟨0, by decide, rfl⟩
  · split
    · exact Or.inr ⟨1, by decide, rfl⟩
    · split
      · exact Or.inr ⟨2, by decide, rfl⟩
      · split
        · exact Or.inr ⟨3, by decide, rfl⟩
        · exact Or.inl rfl
theorem s_numberOf (M : Mem) (c : Int32) : Spec mX7_numberOf [.int c] M (Ret (numF c) M) := by
  refine Spec.of (by decide) (by simp [Value.category]) (Nat.le_of_ble_eq_true rfl) ?_
  refine blk 7 [(.iload_n 0, 0, 0, 0), (.bipush 65, 0, 0, (nI 65))] [] (by decide +kernel) rfl (pc' := 3) (ls' := [some (.int c)]) (st' := [.int (nI 65), .int c]) (M' := M) rfl ⟨trivial, trivial, trivial⟩ ?_
  refine g_icmp_ne (off := 7) (tgt := 10) (by decide +kernel) (by decide) (fun c1 => ?_) (fun c1 => ?_)
  · refine blk 7 [(.iload_n 0, 0, 0, 0), (.bipush 67, 0, 0, (nI 67))] [] (by decide +kernel) rfl (pc' := 13) (ls' := [some (.int c)]) (st' := [.int (nI 67), .int c]) (M' := M) rfl ⟨trivial, trivial, trivial⟩ ?_
    refine g_icmp_ne (off := 7) (tgt := 20) (by decide +kernel) (by decide) (fun c2 => ?_) (fun c2 => ?_)
    · refine blk 7 [(.iload_n 0, 0, 0, 0), (.bipush 71, 0, 0, (nI 71))] [] (by decide +kernel) rfl (pc' := 23) (ls' := [some (.int c)]) (st' := [.int (nI 71), .int c]) (M' := M) rfl ⟨trivial, trivial, trivial⟩ ?_
      refine g_icmp_ne (off := 7) (tgt := 30) (by decide +kernel) (by decide) (fun c3 => ?_) (fun c3 => ?_)
      · refine blk 7 [(.iload_n 0, 0, 0, 0), (.bipush 84, 0, 0, (nI 84))] [] (by decide +kernel) rfl (pc' := 33) (ls' := [some (.int c)]) (st' := [.int (nI 84), .int c]) (M' := M) rfl ⟨trivial, trivial, trivial⟩ ?_
        refine g_icmp_ne (off := 7) (tgt := 40) (by decide +kernel) (by decide) (fun c4 => ?_) (fun c4 => ?_)
        · refine blk 7 [(.iconst (-1), 0, 0, (-1))] [] (by decide +kernel) rfl (pc' := 41) (ls' := [some (.int c)]) (st' := [.int (-1)]) (M' := M) rfl ⟨trivial, trivial⟩ ?_
          exact g_ireturn (by decide +kernel) rfl rfl ⟨by unfold numF; grind, rfl⟩
        · refine blk 7 [(.iconst 3, 0, 0, (nI 3)), (.goto (4), 41, 0, 0)] [] (by decide +kernel) rfl (pc' := 41) (ls' := [some (.int c)]) (st' := [.int (nI 3)]) (M' := M) rfl ⟨trivial, trivial, trivial⟩ ?_
          exact g_ireturn (by decide +kernel) rfl rfl ⟨by unfold numF; grind, rfl⟩
      · refine blk 7 [(.iconst 2, 0, 0, (nI 2)), (.goto (14), 41, 0, 0)] [] (by decide +kernel) rfl (pc' := 41) (ls' := [some (.int c)]) (st' := [.int (nI 2)]) (M' := M) rfl ⟨trivial, trivial, trivial⟩ ?_
        exact g_ireturn (by decide +kernel) rfl rfl ⟨by unfold numF; grind, rfl⟩
    · refine blk 7 [(.iconst 1, 0, 0, (nI 1)), (.goto (24), 41, 0, 0)] [] (by decide +kernel) rfl (pc' := 41) (ls' := [some (.int c)]) (st' := [.int (nI 1)]) (M' := M) rfl ⟨trivial, trivial, trivial⟩ ?_
      exact g_ireturn (by decide +kernel) rfl rfl ⟨by unfold numF; grind, rfl⟩
  · refine blk 7 [(.iconst 0, 0, 0, (nI 0)), (.goto (34), 41, 0, 0)] [] (by decide +kernel) rfl (pc' := 41) (ls' := [some (.int c)]) (st' := [.int (nI 0)]) (M' := M) rfl ⟨trivial, trivial, trivial⟩ ?_
    exact g_ireturn (by decide +kernel) rfl rfl ⟨by unfold numF; grind, rfl⟩
theorem s_mletterOf (M : Mem) (x : Int32) : Spec mX7_letterOf [.int x] M (Ret (chrF x) M) := by
  refine Spec.of (by decide) (by simp [Value.category]) (Nat.le_of_ble_eq_true rfl) ?_
  refine blk 7 [(.iload_n 0, 0, 0, 0)] [] (by decide +kernel) rfl (pc' := 1) (ls' := [some (.int x)]) (st' := [.int x]) (M' := M) rfl ⟨trivial, trivial⟩ ?_
  refine g_if_ne (off := 8) (tgt := 9) (by decide +kernel) (by decide) (fun c1 => ?_) (fun c1 => ?_)
  · refine blk 7 [(.iload_n 0, 0, 0, 0), (.iconst 1, 0, 0, (nI 1))] [] (by decide +kernel) rfl (pc' := 11) (ls' := [some (.int x)]) (st' := [.int (nI 1), .int x]) (M' := M) rfl ⟨trivial, trivial, trivial⟩ ?_
    refine g_icmp_ne (off := 8) (tgt := 19) (by decide +kernel) (by decide) (fun c2 => ?_) (fun c2 => ?_)
    · refine blk 7 [(.iload_n 0, 0, 0, 0), (.iconst 2, 0, 0, (nI 2))] [] (by decide +kernel) rfl (pc' := 21) (ls' := [some (.int x)]) (st' := [.int (nI 2), .int x]) (M' := M) rfl ⟨trivial, trivial, trivial⟩ ?_
      refine g_icmp_ne (off := 8) (tgt := 29) (by decide +kernel) (by decide) (fun c3 => ?_) (fun c3 => ?_)
      · refine blk 7 [(.iload_n 0, 0, 0, 0), (.iconst 3, 0, 0, (nI 3))] [] (by decide +kernel) rfl (pc' := 31) (ls' := [some (.int x)]) (st' := [.int (nI 3), .int x]) (M' := M) rfl ⟨trivial, trivial, trivial⟩ ?_
        refine g_icmp_ne (off := 8) (tgt := 39) (by decide +kernel) (by decide) (fun c4 => ?_) (fun c4 => ?_)
        · refine blk 7 [(.bipush 45, 0, 0, (nI 45))] [] (by decide +kernel) rfl (pc' := 41) (ls' := [some (.int x)]) (st' := [.int (nI 45)]) (M' := M) rfl ⟨trivial, trivial⟩ ?_
          exact g_ireturn (by decide +kernel) rfl (by decide +kernel) ⟨by unfold chrF; grind, rfl⟩
        · refine blk 7 [(.bipush 84, 0, 0, (nI 84)), (.goto (5), 41, 0, 0)] [] (by decide +kernel) rfl (pc' := 41) (ls' := [some (.int x)]) (st' := [.int (nI 84)]) (M' := M) rfl ⟨trivial, trivial, trivial⟩ ?_
          exact g_ireturn (by decide +kernel) rfl (by decide +kernel) ⟨by unfold chrF; grind, rfl⟩
      · refine blk 7 [(.bipush 71, 0, 0, (nI 71)), (.goto (15), 41, 0, 0)] [] (by decide +kernel) rfl (pc' := 41) (ls' := [some (.int x)]) (st' := [.int (nI 71)]) (M' := M) rfl ⟨trivial, trivial, trivial⟩ ?_
        exact g_ireturn (by decide +kernel) rfl (by decide +kernel) ⟨by unfold chrF; grind, rfl⟩
    · refine blk 7 [(.bipush 67, 0, 0, (nI 67)), (.goto (25), 41, 0, 0)] [] (by decide +kernel) rfl (pc' := 41) (ls' := [some (.int x)]) (st' := [.int (nI 67)]) (M' := M) rfl ⟨trivial, trivial, trivial⟩ ?_
      exact g_ireturn (by decide +kernel) rfl (by decide +kernel) ⟨by unfold chrF; grind, rfl⟩
  · refine blk 7 [(.bipush 65, 0, 0, (nI 65)), (.goto (35), 41, 0, 0)] [] (by decide +kernel) rfl (pc' := 41) (ls' := [some (.int x)]) (st' := [.int (nI 65)]) (M' := M) rfl ⟨trivial, trivial, trivial⟩ ?_
    exact g_ireturn (by decide +kernel) rfl (by decide +kernel) ⟨by unfold chrF; grind, rfl⟩
def fgt (M : Mem) : Mem := stm (stm M 72 11 (nI 0)) 72 23 (nI 0)
theorem s_forget (M : Mem) : Spec mX7_forget [.ref 72] M (fun r N => r = none ∧ N = fgt M) := by
  refine Spec.of (by decide) (by simp [Value.category]) (Nat.le_of_ble_eq_true rfl) ?_
  refine blk 7 [(.aload_n 0, 0, 0, 0), (.iconst 0, 0, 0, (nI 0)), (.putfield 89, 7, 11, 0), (.aload_n 0, 0, 0, 0), (.iconst 0, 0, 0, (nI 0)), (.putfield 93, 7, 23, 0)] [] (by decide +kernel) rfl (pc' := 10) (ls' := [some (.ref 72)]) (st' := []) (M' := stm (stm M 72 11 (nI 0)) 72 23 (nI 0)) rfl ⟨trivial, trivial, ⟨rfl, Or.inl rfl⟩, trivial, trivial, rfl, trivial⟩ ?_
  exact g_return (by decide +kernel) rfl ⟨rfl, rfl⟩
theorem s_7_words (M : Mem) : Spec mX7_words [.ref 72] M (Ret (M 72 0) M) := by
  refine Spec.of (by decide) (by simp [Value.category]) (Nat.le_of_ble_eq_true rfl) ?_
  refine blk 7 [(.aload_n 0, 0, 0, 0), (.getfield 103, 7, 0, 0)] [] (by decide +kernel) rfl (pc' := 4) (ls' := [some (.ref 72)]) (st' := [.int (M 72 0)]) (M' := M) rfl ⟨trivial, rfl, trivial⟩ ?_
  exact g_ireturn (by decide +kernel) rfl rfl ⟨rfl, rfl⟩
theorem s_7_columns (M : Mem) : Spec mX7_columns [.ref 72] M (Ret (M 72 23) M) := by
  refine Spec.of (by decide) (by simp [Value.category]) (Nat.le_of_ble_eq_true rfl) ?_
  refine blk 7 [(.aload_n 0, 0, 0, 0), (.getfield 93, 7, 23, 0)] [] (by decide +kernel) rfl (pc' := 4) (ls' := [some (.ref 72)]) (st' := [.int (M 72 23)]) (M' := M) rfl ⟨trivial, rfl, trivial⟩ ?_
  exact g_ireturn (by decide +kernel) rfl rfl ⟨rfl, rfl⟩
def mtypeP (M : Mem) (w : Nat) (c : Int32) : Option Value → Mem → Prop := fun r N => if numF c < 0 ∨ w = 12 then r = some (.int 0) ∧ N = M else r = some (.int 1) ∧ N = stm (stm M 75 w (numF c)) 72 3 (nI (w + 1))
theorem s_mtype (M : Mem) {w : Nat} (c : Int32) (hw : M 72 3 = nI w) (hw12 : w ≤ 12) : Spec mX7_type [.ref 72, .int c] M (mtypeP M w c) := by
  refine Spec.of (by decide) (by simp [Value.category]) (Nat.le_of_ble_eq_true rfl) ?_
  refine blk 7 [(.iload_n 1, 0, 0, 0)] [] (by decide +kernel) rfl (pc' := 1) (ls' := [some (.ref 72), some (.int c)]) (st' := [.int c]) (M' := M) rfl ⟨trivial, trivial⟩ ?_
  refine g_callS (s_numberOf _ c) ok_X7_type_X7_numberOf (by decide +kernel) rfl (Nat.le_of_ble_eq_true rfl) (fun r M' h => ?_) rfl
  obtain ⟨hr, hM⟩ := h
  rw [hr, hM]
  show G _ 4 [some (.ref 72), some (.int c)] [.int (numF c)] M _
  refine g_if_lt (off := 12) (tgt := 16) (by decide +kernel) (by decide) (fun c1 => ?_) (fun c1 => ?_)
  · refine blk 7 [(.iconst 0, 0, 0, (nI 0))] [] (by decide +kernel) rfl (pc' := 17) (ls' := [some (.ref 72), some (.int c)]) (st' := [.int (nI 0)]) (M' := M) rfl ⟨trivial, trivial⟩ ?_
    refine g_ireturn (by decide +kernel) rfl (by decide +kernel) ?_
    unfold mtypeP; rw [if_pos (by first | exact Or.inl c1 | exact Or.inr (by omega))]; exact ⟨rfl, rfl⟩
  · refine blk 7 [(.aload_n 0, 0, 0, 0), (.getfield 100, 7, 3, 0), (.bipush 12, 0, 0, (nI 12))] [] (by decide +kernel) rfl (pc' := 13) (ls' := [some (.ref 72), some (.int c)]) (st' := [.int (nI 12), .int (M 72 3)]) (M' := M) rfl ⟨trivial, rfl, trivial, trivial⟩ ?_
    refine g_icmp_ne (off := 5) (tgt := 18) (by decide +kernel) (by decide) (fun c2 => ?_) (fun c2 => ?_)
    · have nc2 : w ≠ 12 := by
        have z : ¬ nI w = nI 12 := by simpa only [hw, nI_add, pk_mul, nI_s1, n0_lit] using c2
        rw [nI_eq (by omega) (by omega)] at z
        omega
      refine blk 7 [(.aload_n 0, 0, 0, 0), (.getfield 16, 7, 4, 0), (.aload_n 0, 0, 0, 0), (.getfield 100, 7, 3, 0), (.iload_n 1, 0, 0, 0)] [] (by decide +kernel) rfl (pc' := 27) (ls' := [some (.ref 72), some (.int c)]) (st' := [.int c, .int (M 72 3), .ref 75]) (M' := M) rfl ⟨trivial, rfl, trivial, rfl, trivial, trivial⟩ ?_
      refine g_callS (s_numberOf _ c) ok_X7_type_X7_numberOf (by decide +kernel) rfl (Nat.le_of_ble_eq_true rfl) (fun r M' h => ?_) rfl
      obtain ⟨hr, hM⟩ := h
      rw [hr, hM]
      show G _ 30 [some (.ref 72), some (.int c)] [.int (numF c), .int (M 72 3), .ref 75] M _
      refine blk 7 [(.iastore, 0, 0, 0), (.aload_n 0, 0, 0, 0), (.dup, 0, 0, 0), (.getfield 100, 7, 3, 0), (.iconst 1, 0, 0, (nI 1)), (.iadd, 0, 0, 0), (.putfield 100, 7, 3, 0), (.iconst 1, 0, 0, (nI 1))] [w] (by decide +kernel) rfl (pc' := 42) (ls' := [some (.ref 72), some (.int c)]) (st' := [.int (nI 1)]) (M' := stm (stm M 75 w (numF c)) 72 3 ((M 72 3) + (nI 1))) rfl ⟨⟨(by simp only [hw, nI_add, pk_mul, nI_s1, Nat.reduceAdd, Nat.reduceMul]), (by show _ < 12; omega), by decide⟩, trivial, rfl, rfl, trivial, trivial, rfl, trivial, trivial⟩ ?_
      refine g_ireturn (by decide +kernel) rfl (by decide +kernel) ?_
      unfold mtypeP; rw [if_neg (fun z => by rcases z with z | z; exact c1 z; omega), ← nI_add, ← hw]; exact ⟨rfl, rfl⟩
    · have nc2 : w = 12 := (nI_eq (by omega) (by omega)).mp (by simpa only [hw, nI_add, pk_mul, nI_s1, n0_lit] using c2)
      refine blk 7 [(.iconst 0, 0, 0, (nI 0))] [] (by decide +kernel) rfl (pc' := 17) (ls' := [some (.ref 72), some (.int c)]) (st' := [.int (nI 0)]) (M' := M) rfl ⟨trivial, trivial⟩ ?_
      refine g_ireturn (by decide +kernel) rfl (by decide +kernel) ?_
      unfold mtypeP; rw [if_pos (by first | exact Or.inl c1 | exact Or.inr (by omega))]; exact ⟨rfl, rfl⟩
def gapsP (M : Mem) (a b : Int32) : Option Value → Mem → Prop := fun r N => if ¬ a < 0 ∧ ¬ nI 20 < a ∧ ¬ b < 0 ∧ b ≤ nI 20 then r = some (.int 1) ∧ N = fgt (stm (stm M 72 6 a) 72 7 b) else r = some (.int 0) ∧ N = M
theorem s_mgaps (M : Mem) (a b : Int32) : Spec mX7_gaps [.ref 72, .int a, .int b] M (gapsP M a b) := by
  refine Spec.of (by decide) (by simp [Value.category]) (Nat.le_of_ble_eq_true rfl) ?_
  refine blk 7 [(.iload_n 1, 0, 0, 0)] [] (by decide +kernel) rfl (pc' := 1) (ls' := [some (.ref 72), some (.int a), some (.int b)]) (st' := [.int a]) (M' := M) rfl ⟨trivial, trivial⟩ ?_
  refine g_if_lt (off := 19) (tgt := 20) (by decide +kernel) (by decide) (fun c1 => ?_) (fun c1 => ?_)
  · refine blk 7 [(.iconst 0, 0, 0, (nI 0))] [] (by decide +kernel) rfl (pc' := 21) (ls' := [some (.ref 72), some (.int a), some (.int b)]) (st' := [.int (nI 0)]) (M' := M) rfl ⟨trivial, trivial⟩ ?_
    refine g_ireturn (by decide +kernel) rfl (by decide +kernel) ?_
    unfold gapsP; rw [if_neg (fun z => by obtain ⟨z1, z2, z3, z4⟩ := z; first | exact z1 c1 | exact z2 c2 | exact z3 c3 | exact c4 z4)]; exact ⟨rfl, rfl⟩
  · refine blk 7 [(.iload_n 1, 0, 0, 0), (.bipush 20, 0, 0, (nI 20))] [] (by decide +kernel) rfl (pc' := 7) (ls' := [some (.ref 72), some (.int a), some (.int b)]) (st' := [.int (nI 20), .int a]) (M' := M) rfl ⟨trivial, trivial, trivial⟩ ?_
    refine g_icmp_gt (off := 13) (tgt := 20) (by decide +kernel) (by decide) (fun c2 => ?_) (fun c2 => ?_)
    · refine blk 7 [(.iconst 0, 0, 0, (nI 0))] [] (by decide +kernel) rfl (pc' := 21) (ls' := [some (.ref 72), some (.int a), some (.int b)]) (st' := [.int (nI 0)]) (M' := M) rfl ⟨trivial, trivial⟩ ?_
      refine g_ireturn (by decide +kernel) rfl (by decide +kernel) ?_
      unfold gapsP; rw [if_neg (fun z => by obtain ⟨z1, z2, z3, z4⟩ := z; first | exact z1 c1 | exact z2 c2 | exact z3 c3 | exact c4 z4)]; exact ⟨rfl, rfl⟩
    · refine blk 7 [(.iload_n 2, 0, 0, 0)] [] (by decide +kernel) rfl (pc' := 11) (ls' := [some (.ref 72), some (.int a), some (.int b)]) (st' := [.int b]) (M' := M) rfl ⟨trivial, trivial⟩ ?_
      refine g_if_lt (off := 9) (tgt := 20) (by decide +kernel) (by decide) (fun c3 => ?_) (fun c3 => ?_)
      · refine blk 7 [(.iconst 0, 0, 0, (nI 0))] [] (by decide +kernel) rfl (pc' := 21) (ls' := [some (.ref 72), some (.int a), some (.int b)]) (st' := [.int (nI 0)]) (M' := M) rfl ⟨trivial, trivial⟩ ?_
        refine g_ireturn (by decide +kernel) rfl (by decide +kernel) ?_
        unfold gapsP; rw [if_neg (fun z => by obtain ⟨z1, z2, z3, z4⟩ := z; first | exact z1 c1 | exact z2 c2 | exact z3 c3 | exact c4 z4)]; exact ⟨rfl, rfl⟩
      · refine blk 7 [(.iload_n 2, 0, 0, 0), (.bipush 20, 0, 0, (nI 20))] [] (by decide +kernel) rfl (pc' := 17) (ls' := [some (.ref 72), some (.int a), some (.int b)]) (st' := [.int (nI 20), .int b]) (M' := M) rfl ⟨trivial, trivial, trivial⟩ ?_
        refine g_icmp_le (off := 5) (tgt := 22) (by decide +kernel) (by decide) (fun c4 => ?_) (fun c4 => ?_)
        · refine blk 7 [(.aload_n 0, 0, 0, 0), (.iload_n 1, 0, 0, 0), (.putfield 22, 7, 6, 0), (.aload_n 0, 0, 0, 0), (.iload_n 2, 0, 0, 0), (.putfield 26, 7, 7, 0), (.aload_n 0, 0, 0, 0)] [] (by decide +kernel) rfl (pc' := 33) (ls' := [some (.ref 72), some (.int a), some (.int b)]) (st' := [.ref 72]) (M' := stm (stm M 72 6 a) 72 7 b) rfl ⟨trivial, trivial, rfl, trivial, trivial, rfl, trivial, trivial⟩ ?_
          refine g_callV (s_forget _) ok_X7_gaps_X7_forget (by decide +kernel) rfl (c := 7) rfl (by decide) rfl (Nat.le_of_ble_eq_true rfl) (fun r N h => ?_) rfl
          obtain ⟨hr, hN⟩ := h
          rw [hr]
          show G _ 36 [some (.ref 72), some (.int a), some (.int b)] [] N _
          refine blk 7 [(.iconst 1, 0, 0, (nI 1))] [] (by decide +kernel) rfl (pc' := 37) (ls' := [some (.ref 72), some (.int a), some (.int b)]) (st' := [.int (nI 1)]) (M' := N) rfl ⟨trivial, trivial⟩ ?_
          refine g_ireturn (by decide +kernel) rfl (by decide +kernel) ?_
          unfold gapsP; rw [if_pos ⟨c1, c2, c3, c4⟩]; exact ⟨rfl, hN⟩
        · refine blk 7 [(.iconst 0, 0, 0, (nI 0))] [] (by decide +kernel) rfl (pc' := 21) (ls' := [some (.ref 72), some (.int a), some (.int b)]) (st' := [.int (nI 0)]) (M' := M) rfl ⟨trivial, trivial⟩ ?_
          refine g_ireturn (by decide +kernel) rfl (by decide +kernel) ?_
          unfold gapsP; rw [if_neg (fun z => by obtain ⟨z1, z2, z3, z4⟩ := z; first | exact z1 c1 | exact z2 c2 | exact z3 c3 | exact c4 z4)]; exact ⟨rfl, rfl⟩
theorem s_msettings (M : Mem) {a b c : Int32} (ha : a = 0 ∨ a = 1) (hb : b = 0 ∨ b = 1) (hc : c = 0 ∨ c = 1) : Spec mX7_settings [.ref 72, .int a, .int b, .int c] M (fun r N => r = none ∧ N = fgt (stm (stm (stm M 72 8 a) 72 9 b) 72 10 c)) := by
  refine Spec.of (by decide) (by simp [Value.category]) (Nat.le_of_ble_eq_true rfl) ?_
  refine blk 7 [(.aload_n 0, 0, 0, 0), (.iload_n 1, 0, 0, 0), (.putfield 109, 7, 8, 0), (.aload_n 0, 0, 0, 0), (.iload_n 2, 0, 0, 0), (.putfield 112, 7, 9, 0), (.aload_n 0, 0, 0, 0), (.iload_n 3, 0, 0, 0), (.putfield 115, 7, 10, 0), (.aload_n 0, 0, 0, 0)] [] (by decide +kernel) rfl (pc' := 16) (ls' := [some (.ref 72), some (.int a), some (.int b), some (.int c)]) (st' := [.ref 72]) (M' := stm (stm (stm M 72 8 a) 72 9 b) 72 10 c) rfl ⟨trivial, trivial, ⟨rfl, (by assumption)⟩, trivial, trivial, ⟨rfl, (by assumption)⟩, trivial, trivial, ⟨rfl, (by assumption)⟩, trivial, trivial⟩ ?_
  refine g_callV (s_forget _) ok_X7_settings_X7_forget (by decide +kernel) rfl (c := 7) rfl (by decide) rfl (Nat.le_of_ble_eq_true rfl) (fun r N h => ?_) rfl
  obtain ⟨hr, hN⟩ := h
  rw [hr]
  show G _ 19 [some (.ref 72), some (.int a), some (.int b), some (.int c)] [] N _
  exact g_return (by decide +kernel) rfl ⟨rfl, hN⟩
theorem s_mscore1 (M : Mem) {x y : Nat} {v : Int32} (hx : x < 4) (hy : y < 4) (hv1 : ¬ v < -20) (hv2 : v ≤ nI 20) : Spec mX7_score [.ref 72, .int (nI x), .int (nI y), .int v] M (fun r N => r = some (.int 1) ∧ N = fgt (stm (stm M 77 (4 * x + y) v) 77 (4 * y + x) v)) := by
  refine Spec.of (by decide) (by simp [Value.category]) (Nat.le_of_ble_eq_true rfl) ?_
  refine blk 7 [(.iload_n 1, 0, 0, 0)] [] (by decide +kernel) rfl (pc' := 1) (ls' := [some (.ref 72), some (.int (nI x)), some (.int (nI y)), some (.int v)]) (st' := [.int (nI x)]) (M' := M) rfl ⟨trivial, trivial⟩ ?_
  refine g_if_lt (off := 29) (tgt := 30) (by decide +kernel) (by decide) (fun c1 => ?_) (fun c1 => ?_)
  · have nc1 : x < 0 := (nI_ltI (by omega) (by omega)).mp (by simpa only [nI_add, pk_mul, nI_s1, n0_lit] using c1)
    refine blk 7 [(.iconst 0, 0, 0, (nI 0))] [] (by decide +kernel) rfl (pc' := 31) (ls' := [some (.ref 72), some (.int (nI x)), some (.int (nI y)), some (.int v)]) (st' := [.int (nI 0)]) (M' := M) rfl ⟨trivial, trivial⟩ ?_
    exfalso
    first | omega | exact hv1 c5 | exact c6 hv2
  · have nc1 : 0 ≤ x := by
      have z : ¬ nI x < nI 0 := by simpa only [nI_add, pk_mul, nI_s1, n0_lit] using c1
      rw [nI_ltI (by omega) (by omega)] at z
      omega
    refine blk 7 [(.iload_n 1, 0, 0, 0), (.iconst 3, 0, 0, (nI 3))] [] (by decide +kernel) rfl (pc' := 6) (ls' := [some (.ref 72), some (.int (nI x)), some (.int (nI y)), some (.int v)]) (st' := [.int (nI 3), .int (nI x)]) (M' := M) rfl ⟨trivial, trivial, trivial⟩ ?_
    refine g_icmp_gt (off := 24) (tgt := 30) (by decide +kernel) (by decide) (fun c2 => ?_) (fun c2 => ?_)
    · have nc2 : 3 < x := (nI_ltI (by omega) (by omega)).mp (by simpa only [nI_add, pk_mul, nI_s1, n0_lit] using c2)
      refine blk 7 [(.iconst 0, 0, 0, (nI 0))] [] (by decide +kernel) rfl (pc' := 31) (ls' := [some (.ref 72), some (.int (nI x)), some (.int (nI y)), some (.int v)]) (st' := [.int (nI 0)]) (M' := M) rfl ⟨trivial, trivial⟩ ?_
      exfalso
      first | omega | exact hv1 c5 | exact c6 hv2
    · have nc2 : x ≤ 3 := by
        have z : ¬ nI 3 < nI x := by simpa only [nI_add, pk_mul, nI_s1, n0_lit] using c2
        rw [nI_ltI (by omega) (by omega)] at z
        omega
      refine blk 7 [(.iload_n 2, 0, 0, 0)] [] (by decide +kernel) rfl (pc' := 10) (ls' := [some (.ref 72), some (.int (nI x)), some (.int (nI y)), some (.int v)]) (st' := [.int (nI y)]) (M' := M) rfl ⟨trivial, trivial⟩ ?_
      refine g_if_lt (off := 20) (tgt := 30) (by decide +kernel) (by decide) (fun c3 => ?_) (fun c3 => ?_)
      · have nc3 : y < 0 := (nI_ltI (by omega) (by omega)).mp (by simpa only [nI_add, pk_mul, nI_s1, n0_lit] using c3)
        refine blk 7 [(.iconst 0, 0, 0, (nI 0))] [] (by decide +kernel) rfl (pc' := 31) (ls' := [some (.ref 72), some (.int (nI x)), some (.int (nI y)), some (.int v)]) (st' := [.int (nI 0)]) (M' := M) rfl ⟨trivial, trivial⟩ ?_
        exfalso
        first | omega | exact hv1 c5 | exact c6 hv2
      · have nc3 : 0 ≤ y := by
          have z : ¬ nI y < nI 0 := by simpa only [nI_add, pk_mul, nI_s1, n0_lit] using c3
          rw [nI_ltI (by omega) (by omega)] at z
          omega
        refine blk 7 [(.iload_n 2, 0, 0, 0), (.iconst 3, 0, 0, (nI 3))] [] (by decide +kernel) rfl (pc' := 15) (ls' := [some (.ref 72), some (.int (nI x)), some (.int (nI y)), some (.int v)]) (st' := [.int (nI 3), .int (nI y)]) (M' := M) rfl ⟨trivial, trivial, trivial⟩ ?_
        refine g_icmp_gt (off := 15) (tgt := 30) (by decide +kernel) (by decide) (fun c4 => ?_) (fun c4 => ?_)
        · have nc4 : 3 < y := (nI_ltI (by omega) (by omega)).mp (by simpa only [nI_add, pk_mul, nI_s1, n0_lit] using c4)
          refine blk 7 [(.iconst 0, 0, 0, (nI 0))] [] (by decide +kernel) rfl (pc' := 31) (ls' := [some (.ref 72), some (.int (nI x)), some (.int (nI y)), some (.int v)]) (st' := [.int (nI 0)]) (M' := M) rfl ⟨trivial, trivial⟩ ?_
          exfalso
          first | omega | exact hv1 c5 | exact c6 hv2
        · have nc4 : y ≤ 3 := by
            have z : ¬ nI 3 < nI y := by simpa only [nI_add, pk_mul, nI_s1, n0_lit] using c4
            rw [nI_ltI (by omega) (by omega)] at z
            omega
          refine blk 7 [(.iload_n 3, 0, 0, 0), (.bipush (-20), 0, 0, (-20))] [] (by decide +kernel) rfl (pc' := 21) (ls' := [some (.ref 72), some (.int (nI x)), some (.int (nI y)), some (.int v)]) (st' := [.int (-20), .int v]) (M' := M) rfl ⟨trivial, trivial, trivial⟩ ?_
          refine g_icmp_lt (off := 9) (tgt := 30) (by decide +kernel) (by decide) (fun c5 => ?_) (fun c5 => ?_)
          · refine blk 7 [(.iconst 0, 0, 0, (nI 0))] [] (by decide +kernel) rfl (pc' := 31) (ls' := [some (.ref 72), some (.int (nI x)), some (.int (nI y)), some (.int v)]) (st' := [.int (nI 0)]) (M' := M) rfl ⟨trivial, trivial⟩ ?_
            exfalso
            first | omega | exact hv1 c5 | exact c6 hv2
          · refine blk 7 [(.iload_n 3, 0, 0, 0), (.bipush 20, 0, 0, (nI 20))] [] (by decide +kernel) rfl (pc' := 27) (ls' := [some (.ref 72), some (.int (nI x)), some (.int (nI y)), some (.int v)]) (st' := [.int (nI 20), .int v]) (M' := M) rfl ⟨trivial, trivial, trivial⟩ ?_
            refine g_icmp_le (off := 5) (tgt := 32) (by decide +kernel) (by decide) (fun c6 => ?_) (fun c6 => ?_)
            · refine blk 7 [(.aload_n 0, 0, 0, 0), (.getfield 19, 7, 5, 0), (.iconst 4, 0, 0, (nI 4)), (.iload_n 1, 0, 0, 0), (.imul, 0, 0, 0), (.iload_n 2, 0, 0, 0), (.iadd, 0, 0, 0), (.iload_n 3, 0, 0, 0), (.iastore, 0, 0, 0), (.aload_n 0, 0, 0, 0), (.getfield 19, 7, 5, 0), (.iconst 4, 0, 0, (nI 4)), (.iload_n 2, 0, 0, 0), (.imul, 0, 0, 0), (.iload_n 1, 0, 0, 0), (.iadd, 0, 0, 0), (.iload_n 3, 0, 0, 0), (.iastore, 0, 0, 0), (.aload_n 0, 0, 0, 0)] [4 * x + y, 4 * y + x] (by decide +kernel) rfl (pc' := 55) (ls' := [some (.ref 72), some (.int (nI x)), some (.int (nI y)), some (.int v)]) (st' := [.ref 72]) (M' := stm (stm M 77 (4 * x + y) v) 77 (4 * y + x) v) rfl ⟨trivial, rfl, trivial, trivial, trivial, trivial, trivial, trivial, ⟨(by simp only [nI_add, pk_mul, nI_s1, Nat.reduceAdd, Nat.reduceMul]), (by show _ < 16; omega), by decide⟩, trivial, rfl, trivial, trivial, trivial, trivial, trivial, trivial, ⟨(by simp only [nI_add, pk_mul, nI_s1, Nat.reduceAdd, Nat.reduceMul]), (by show _ < 16; omega), by decide⟩, trivial, trivial⟩ ?_
              refine g_callV (s_forget _) ok_X7_score_X7_forget (by decide +kernel) rfl (c := 7) rfl (by decide) rfl (Nat.le_of_ble_eq_true rfl) (fun r N h => ?_) rfl
              obtain ⟨hr, hN⟩ := h
              rw [hr]
              show G _ 58 [some (.ref 72), some (.int (nI x)), some (.int (nI y)), some (.int v)] [] N _
              refine blk 7 [(.iconst 1, 0, 0, (nI 1))] [] (by decide +kernel) rfl (pc' := 59) (ls' := [some (.ref 72), some (.int (nI x)), some (.int (nI y)), some (.int v)]) (st' := [.int (nI 1)]) (M' := N) rfl ⟨trivial, trivial⟩ ?_
              exact g_ireturn (by decide +kernel) rfl (by decide +kernel) ⟨rfl, hN⟩
            · refine blk 7 [(.iconst 0, 0, 0, (nI 0))] [] (by decide +kernel) rfl (pc' := 31) (ls' := [some (.ref 72), some (.int (nI x)), some (.int (nI y)), some (.int v)]) (st' := [.int (nI 0)]) (M' := M) rfl ⟨trivial, trivial⟩ ?_
              exfalso
              first | omega | exact hv1 c5 | exact c6 hv2
theorem s_mscore0 (M : Mem) {x y v : Int32} (hno : ¬ (¬ x < 0 ∧ ¬ nI 3 < x ∧ ¬ y < 0 ∧ ¬ nI 3 < y ∧ ¬ v < -20 ∧ v ≤ nI 20)) : Spec mX7_score [.ref 72, .int x, .int y, .int v] M (Ret 0 M) := by
  refine Spec.of (by decide) (by simp [Value.category]) (Nat.le_of_ble_eq_true rfl) ?_
  refine blk 7 [(.iload_n 1, 0, 0, 0)] [] (by decide +kernel) rfl (pc' := 1) (ls' := [some (.ref 72), some (.int x), some (.int y), some (.int v)]) (st' := [.int x]) (M' := M) rfl ⟨trivial, trivial⟩ ?_
  refine g_if_lt (off := 29) (tgt := 30) (by decide +kernel) (by decide) (fun c1 => ?_) (fun c1 => ?_)
  · refine blk 7 [(.iconst 0, 0, 0, (nI 0))] [] (by decide +kernel) rfl (pc' := 31) (ls' := [some (.ref 72), some (.int x), some (.int y), some (.int v)]) (st' := [.int (nI 0)]) (M' := M) rfl ⟨trivial, trivial⟩ ?_
    exact g_ireturn (by decide +kernel) rfl (by decide +kernel) ⟨rfl, rfl⟩
  · refine blk 7 [(.iload_n 1, 0, 0, 0), (.iconst 3, 0, 0, (nI 3))] [] (by decide +kernel) rfl (pc' := 6) (ls' := [some (.ref 72), some (.int x), some (.int y), some (.int v)]) (st' := [.int (nI 3), .int x]) (M' := M) rfl ⟨trivial, trivial, trivial⟩ ?_
    refine g_icmp_gt (off := 24) (tgt := 30) (by decide +kernel) (by decide) (fun c2 => ?_) (fun c2 => ?_)
    · refine blk 7 [(.iconst 0, 0, 0, (nI 0))] [] (by decide +kernel) rfl (pc' := 31) (ls' := [some (.ref 72), some (.int x), some (.int y), some (.int v)]) (st' := [.int (nI 0)]) (M' := M) rfl ⟨trivial, trivial⟩ ?_
      exact g_ireturn (by decide +kernel) rfl (by decide +kernel) ⟨rfl, rfl⟩
    · refine blk 7 [(.iload_n 2, 0, 0, 0)] [] (by decide +kernel) rfl (pc' := 10) (ls' := [some (.ref 72), some (.int x), some (.int y), some (.int v)]) (st' := [.int y]) (M' := M) rfl ⟨trivial, trivial⟩ ?_
      refine g_if_lt (off := 20) (tgt := 30) (by decide +kernel) (by decide) (fun c3 => ?_) (fun c3 => ?_)
      · refine blk 7 [(.iconst 0, 0, 0, (nI 0))] [] (by decide +kernel) rfl (pc' := 31) (ls' := [some (.ref 72), some (.int x), some (.int y), some (.int v)]) (st' := [.int (nI 0)]) (M' := M) rfl ⟨trivial, trivial⟩ ?_
        exact g_ireturn (by decide +kernel) rfl (by decide +kernel) ⟨rfl, rfl⟩
      · refine blk 7 [(.iload_n 2, 0, 0, 0), (.iconst 3, 0, 0, (nI 3))] [] (by decide +kernel) rfl (pc' := 15) (ls' := [some (.ref 72), some (.int x), some (.int y), some (.int v)]) (st' := [.int (nI 3), .int y]) (M' := M) rfl ⟨trivial, trivial, trivial⟩ ?_
        refine g_icmp_gt (off := 15) (tgt := 30) (by decide +kernel) (by decide) (fun c4 => ?_) (fun c4 => ?_)
        · refine blk 7 [(.iconst 0, 0, 0, (nI 0))] [] (by decide +kernel) rfl (pc' := 31) (ls' := [some (.ref 72), some (.int x), some (.int y), some (.int v)]) (st' := [.int (nI 0)]) (M' := M) rfl ⟨trivial, trivial⟩ ?_
          exact g_ireturn (by decide +kernel) rfl (by decide +kernel) ⟨rfl, rfl⟩
        · refine blk 7 [(.iload_n 3, 0, 0, 0), (.bipush (-20), 0, 0, (-20))] [] (by decide +kernel) rfl (pc' := 21) (ls' := [some (.ref 72), some (.int x), some (.int y), some (.int v)]) (st' := [.int (-20), .int v]) (M' := M) rfl ⟨trivial, trivial, trivial⟩ ?_
          refine g_icmp_lt (off := 9) (tgt := 30) (by decide +kernel) (by decide) (fun c5 => ?_) (fun c5 => ?_)
          · refine blk 7 [(.iconst 0, 0, 0, (nI 0))] [] (by decide +kernel) rfl (pc' := 31) (ls' := [some (.ref 72), some (.int x), some (.int y), some (.int v)]) (st' := [.int (nI 0)]) (M' := M) rfl ⟨trivial, trivial⟩ ?_
            exact g_ireturn (by decide +kernel) rfl (by decide +kernel) ⟨rfl, rfl⟩
          · refine blk 7 [(.iload_n 3, 0, 0, 0), (.bipush 20, 0, 0, (nI 20))] [] (by decide +kernel) rfl (pc' := 27) (ls' := [some (.ref 72), some (.int x), some (.int y), some (.int v)]) (st' := [.int (nI 20), .int v]) (M' := M) rfl ⟨trivial, trivial, trivial⟩ ?_
            refine g_icmp_le (off := 5) (tgt := 32) (by decide +kernel) (by decide) (fun c6 => ?_) (fun c6 => ?_)
            · exact absurd ⟨c1, c2, c3, c4, c5, c6⟩ hno
            · refine blk 7 [(.iconst 0, 0, 0, (nI 0))] [] (by decide +kernel) rfl (pc' := 31) (ls' := [some (.ref 72), some (.int x), some (.int y), some (.int v)]) (st' := [.int (nI 0)]) (M' := M) rfl ⟨trivial, trivial⟩ ?_
              exact g_ireturn (by decide +kernel) rfl (by decide +kernel) ⟨rfl, rfl⟩
def twoB (W i j : Int32) : Bool := decide (¬ i < 0 ∧ ¬ W ≤ i ∧ ¬ j < 0 ∧ ¬ W ≤ j ∧ ¬ i = j)
theorem s_areTwo (M : Mem) (i j : Int32) : Spec mX7_areTwo [.ref 72, .int i, .int j] M (Ret (bI (twoB (M 72 0) i j)) M) := by
  refine Spec.of (by decide) (by simp [Value.category]) (Nat.le_of_ble_eq_true rfl) ?_
  refine blk 7 [(.iload_n 1, 0, 0, 0)] [] (by decide +kernel) rfl (pc' := 1) (ls' := [some (.ref 72), some (.int i), some (.int j)]) (st' := [.int i]) (M' := M) rfl ⟨trivial, trivial⟩ ?_
  refine g_if_lt (off := 32) (tgt := 33) (by decide +kernel) (by decide) (fun c1 => ?_) (fun c1 => ?_)
  · refine blk 7 [(.iconst 0, 0, 0, (nI 0))] [] (by decide +kernel) rfl (pc' := 34) (ls' := [some (.ref 72), some (.int i), some (.int j)]) (st' := [.int (nI 0)]) (M' := M) rfl ⟨trivial, trivial⟩ ?_
    refine g_ireturn (by decide +kernel) rfl (by decide +kernel) ⟨?_, rfl⟩
    rw [show twoB (M 72 0) i j = false from decide_eq_false (fun z => by obtain ⟨z1, z2, z3, z4, z5⟩ := z; first | exact z1 c1 | exact z2 c2 | exact z3 c3 | exact z4 c4 | exact z5 c5)]; rfl
  · refine blk 7 [(.iload_n 1, 0, 0, 0), (.aload_n 0, 0, 0, 0), (.getfield 103, 7, 0, 0)] [] (by decide +kernel) rfl (pc' := 9) (ls' := [some (.ref 72), some (.int i), some (.int j)]) (st' := [.int (M 72 0), .int i]) (M' := M) rfl ⟨trivial, trivial, rfl, trivial⟩ ?_
    refine g_icmp_ge (off := 24) (tgt := 33) (by decide +kernel) (by decide) (fun c2 => ?_) (fun c2 => ?_)
    · refine blk 7 [(.iconst 0, 0, 0, (nI 0))] [] (by decide +kernel) rfl (pc' := 34) (ls' := [some (.ref 72), some (.int i), some (.int j)]) (st' := [.int (nI 0)]) (M' := M) rfl ⟨trivial, trivial⟩ ?_
      refine g_ireturn (by decide +kernel) rfl (by decide +kernel) ⟨?_, rfl⟩
      rw [show twoB (M 72 0) i j = false from decide_eq_false (fun z => by obtain ⟨z1, z2, z3, z4, z5⟩ := z; first | exact z1 c1 | exact z2 c2 | exact z3 c3 | exact z4 c4 | exact z5 c5)]; rfl
    · refine blk 7 [(.iload_n 2, 0, 0, 0)] [] (by decide +kernel) rfl (pc' := 13) (ls' := [some (.ref 72), some (.int i), some (.int j)]) (st' := [.int j]) (M' := M) rfl ⟨trivial, trivial⟩ ?_
      refine g_if_lt (off := 20) (tgt := 33) (by decide +kernel) (by decide) (fun c3 => ?_) (fun c3 => ?_)
      · refine blk 7 [(.iconst 0, 0, 0, (nI 0))] [] (by decide +kernel) rfl (pc' := 34) (ls' := [some (.ref 72), some (.int i), some (.int j)]) (st' := [.int (nI 0)]) (M' := M) rfl ⟨trivial, trivial⟩ ?_
        refine g_ireturn (by decide +kernel) rfl (by decide +kernel) ⟨?_, rfl⟩
        rw [show twoB (M 72 0) i j = false from decide_eq_false (fun z => by obtain ⟨z1, z2, z3, z4, z5⟩ := z; first | exact z1 c1 | exact z2 c2 | exact z3 c3 | exact z4 c4 | exact z5 c5)]; rfl
      · refine blk 7 [(.iload_n 2, 0, 0, 0), (.aload_n 0, 0, 0, 0), (.getfield 103, 7, 0, 0)] [] (by decide +kernel) rfl (pc' := 21) (ls' := [some (.ref 72), some (.int i), some (.int j)]) (st' := [.int (M 72 0), .int j]) (M' := M) rfl ⟨trivial, trivial, rfl, trivial⟩ ?_
        refine g_icmp_ge (off := 12) (tgt := 33) (by decide +kernel) (by decide) (fun c4 => ?_) (fun c4 => ?_)
        · refine blk 7 [(.iconst 0, 0, 0, (nI 0))] [] (by decide +kernel) rfl (pc' := 34) (ls' := [some (.ref 72), some (.int i), some (.int j)]) (st' := [.int (nI 0)]) (M' := M) rfl ⟨trivial, trivial⟩ ?_
          refine g_ireturn (by decide +kernel) rfl (by decide +kernel) ⟨?_, rfl⟩
          rw [show twoB (M 72 0) i j = false from decide_eq_false (fun z => by obtain ⟨z1, z2, z3, z4, z5⟩ := z; first | exact z1 c1 | exact z2 c2 | exact z3 c3 | exact z4 c4 | exact z5 c5)]; rfl
        · refine blk 7 [(.iload_n 1, 0, 0, 0), (.iload_n 2, 0, 0, 0)] [] (by decide +kernel) rfl (pc' := 26) (ls' := [some (.ref 72), some (.int i), some (.int j)]) (st' := [.int j, .int i]) (M' := M) rfl ⟨trivial, trivial, trivial⟩ ?_
          refine g_icmp_eq (off := 7) (tgt := 33) (by decide +kernel) (by decide) (fun c5 => ?_) (fun c5 => ?_)
          · refine blk 7 [(.iconst 0, 0, 0, (nI 0))] [] (by decide +kernel) rfl (pc' := 34) (ls' := [some (.ref 72), some (.int i), some (.int j)]) (st' := [.int (nI 0)]) (M' := M) rfl ⟨trivial, trivial⟩ ?_
            refine g_ireturn (by decide +kernel) rfl (by decide +kernel) ⟨?_, rfl⟩
            rw [show twoB (M 72 0) i j = false from decide_eq_false (fun z => by obtain ⟨z1, z2, z3, z4, z5⟩ := z; first | exact z1 c1 | exact z2 c2 | exact z3 c3 | exact z4 c4 | exact z5 c5)]; rfl
          · refine blk 7 [(.iconst 1, 0, 0, (nI 1)), (.goto (4), 34, 0, 0)] [] (by decide +kernel) rfl (pc' := 34) (ls' := [some (.ref 72), some (.int i), some (.int j)]) (st' := [.int (nI 1)]) (M' := M) rfl ⟨trivial, trivial, trivial⟩ ?_
            refine g_ireturn (by decide +kernel) rfl (by decide +kernel) ⟨?_, rfl⟩
            rw [show twoB (M 72 0) i j = true from decide_eq_true ( ⟨c1, c2, c3, c4, c5⟩)]; rfl
end
section
/-! the class: small methods -/
theorem ltr_num {c : Int32} {x : Nat} (hx : x < 4) (h : ltr x = c) : numF c = nI x := by
  subst h
  rcases (show x = 0 ∨ x = 1 ∨ x = 2 ∨ x = 3 by omega) with rfl | rfl | rfl | rfl <;> decide +kernel
theorem ltr_no {c : Int32} (h : ∀ x, x < 4 → ¬ ltr x = c) : numF c = -1 := by
  unfold numF
  have h0 := h 0 (by decide)
  have h1 := h 1 (by decide)
  have h2 := h 2 (by decide)
  have h3 := h 3 (by decide)
  rw [if_neg (fun z => h0 (by rw [z]; decide +kernel)), if_neg (fun z => h1 (by rw [z]; decide +kernel)), if_neg (fun z => h2 (by rw [z]; decide +kernel)), if_neg (fun z => h3 (by rw [z]; decide +kernel))]
theorem l_letterOf {M : Mem} {c : Int32} : ∀ d x, d = 4 - x → x ≤ 4 → (∀ a, a < x → ¬ ltr a = c) → G mX6_letterOf 2 [some (.int c), some (.int (nI x))] [] M (Ret (numF c) M) := by
  intro d
  induction d using Nat.strongRecOn with
  | ind d ih =>
    intro x hd hx hn
    refine blk 6 [(.iload_n 1, 0, 0, 0), (.iconst 4, 0, 0, (nI 4))] [] (by decide +kernel) rfl (pc' := 4) (ls' := [some (.int c), some (.int (nI x))]) (st' := [.int (nI 4), .int (nI x)]) (M' := M) rfl ⟨trivial, trivial, trivial⟩ ?_
    refine g_icmp_ge (off := 20) (tgt := 24) (by decide +kernel) (by decide) (fun c1 => ?_) (fun c1 => ?_)
    · have nc1 : 4 ≤ x := (nI_leI (by omega) (by omega)).mp (by simpa only [nI_add, pk_mul, nI_s1, n0_lit] using c1)
      refine blk 6 [(.iconst (-1), 0, 0, (-1))] [] (by decide +kernel) rfl (pc' := 25) (ls' := [some (.int c), some (.int (nI x))]) (st' := [.int (-1)]) (M' := M) rfl ⟨trivial, trivial⟩ ?_
      exact g_ireturn (by decide +kernel) rfl rfl ⟨by rw [ltr_no (fun a ha => hn a (by omega))], rfl⟩
    · have nc1 : x < 4 := by
        have z : ¬ nI 4 ≤ nI x := by simpa only [nI_add, pk_mul, nI_s1, n0_lit] using c1
        rw [nI_leI (by omega) (by omega)] at z
        omega
      refine blk 6 [(.getstatic 155, 96, 0, 0), (.iload_n 1, 0, 0, 0), (.caload, 0, 0, 0), (.iload_n 0, 0, 0, 0)] [x] (by decide +kernel) rfl (pc' := 13) (ls' := [some (.int c), some (.int (nI x))]) (st' := [.int c, .int (ltr x)]) (M' := M) rfl ⟨trivial, trivial, ⟨rfl, (by omega), rfl⟩, trivial, trivial⟩ ?_
      refine g_icmp_ne (off := 5) (tgt := 18) (by decide +kernel) (by decide) (fun c2 => ?_) (fun c2 => ?_)
      · refine blk 6 [(.iinc 1 1, 0, 0, (nI 1)), (.goto (-19), 2, 0, 0)] [] (by decide +kernel) rfl (pc' := 2) (ls' := [some (.int c), some (.int (nI x + nI 1))]) (st' := []) (M' := M) rfl ⟨trivial, trivial, trivial⟩ ?_
        refine G.sub (ls' := [some (.int c), some (.int (nI (x + 1)))]) ?_ ⟨rfl, congrArg (fun z => some (Value.int z)) (by simp only [nI_add, nI_s1]), trivial⟩
        exact ih (d - 1) (by omega) (x + 1) (by omega) (by omega) (fun a ha => by rcases Nat.lt_or_ge a x with z | z; exact hn a z; rw [show a = x by omega]; exact c2)
      · refine blk 6 [(.iload_n 1, 0, 0, 0)] [] (by decide +kernel) rfl (pc' := 17) (ls' := [some (.int c), some (.int (nI x))]) (st' := [.int (nI x)]) (M' := M) rfl ⟨trivial, trivial⟩ ?_
        exact g_ireturn (by decide +kernel) rfl rfl ⟨by rw [ltr_num (by omega) c2], rfl⟩
theorem s_letterOf (M : Mem) (c : Int32) : Spec mX6_letterOf [.int c] M (Ret (numF c) M) := by
  refine Spec.of (by decide) (by simp [Value.category]) (Nat.le_of_ble_eq_true rfl) ?_
  refine blk 6 [(.iconst 0, 0, 0, (nI 0)), (.istore_n 1, 0, 0, 0)] [] (by decide +kernel) rfl (pc' := 2) (ls' := [some (.int c), some (.int (nI 0))]) (st' := []) (M' := M) rfl ⟨trivial, trivial, trivial⟩ ?_
  exact l_letterOf _ 0 rfl (by omega) (fun a h => absurd h (by omega))
def typeP (M : Mem) (w : Nat) (c : Int32) : Option Value → Mem → Prop := fun r N => if numF c = -1 ∨ 12 ≤ w then r = some (.int 0) ∧ N = M else r = some (.int 1) ∧ N = stm (stm M 76 w (numF c)) 71 1 (nI (w + 1))
theorem s_type (M : Mem) {w : Nat} (c : Int32) (hw : M 71 1 = nI w) (hw12 : w ≤ 12) : Spec mX6_type [.ref 0, .int c] M (typeP M w c) := by
  refine Spec.of (by decide) (by simp [Value.category]) (Nat.le_of_ble_eq_true rfl) ?_
  refine blk 6 [(.iload_n 1, 0, 0, 0)] [] (by decide +kernel) rfl (pc' := 1) (ls' := [some (.ref 0), some (.int c), none]) (st' := [.int c]) (M' := M) rfl ⟨trivial, trivial⟩ ?_
  refine g_callS (s_letterOf _ c) ok_X6_type_X6_letterOf (by decide +kernel) rfl (Nat.le_of_ble_eq_true rfl) (fun r M' h => ?_) rfl
  obtain ⟨hr, hM⟩ := h
  rw [hr, hM]
  show G _ 4 [some (.ref 0), some (.int c), none] [.int (numF c)] M _
  refine blk 6 [(.istore_n 2, 0, 0, 0), (.iload_n 2, 0, 0, 0), (.iconst (-1), 0, 0, (-1))] [] (by decide +kernel) rfl (pc' := 7) (ls' := [some (.ref 0), some (.int c), some (.int (numF c))]) (st' := [.int (-1), .int (numF c)]) (M' := M) rfl ⟨trivial, trivial, trivial, trivial⟩ ?_
  refine g_icmp_eq (off := 15) (tgt := 22) (by decide +kernel) (by decide) (fun c1 => ?_) (fun c1 => ?_)
  · refine blk 6 [(.iconst 0, 0, 0, (nI 0))] [] (by decide +kernel) rfl (pc' := 23) (ls' := [some (.ref 0), some (.int c), some (.int (numF c))]) (st' := [.int (nI 0)]) (M' := M) rfl ⟨trivial, trivial⟩ ?_
    refine g_ireturn (by decide +kernel) rfl (by decide +kernel) ?_
    unfold typeP; rw [if_pos (by first | exact Or.inl c1 | exact Or.inr (by omega))]; exact ⟨rfl, rfl⟩
  · refine blk 6 [(.aload_n 0, 0, 0, 0), (.getfield 18, 6, 1, 0), (.getfield 59, 2, 1, 0), (.bipush 12, 0, 0, (nI 12))] [] (by decide +kernel) rfl (pc' := 19) (ls' := [some (.ref 0), some (.int c), some (.int (numF c))]) (st' := [.int (nI 12), .int (M 71 1)]) (M' := M) rfl ⟨trivial, rfl, rfl, trivial, trivial⟩ ?_
    refine g_icmp_lt (off := 5) (tgt := 24) (by decide +kernel) (by decide) (fun c2 => ?_) (fun c2 => ?_)
    · have nc2 : w < 12 := (nI_ltI (by omega) (by omega)).mp (by simpa only [hw, nI_add, pk_mul, nI_s1, n0_lit] using c2)
      refine blk 6 [(.aload_n 0, 0, 0, 0), (.getfield 18, 6, 1, 0), (.getfield 63, 2, 0, 0), (.aload_n 0, 0, 0, 0), (.getfield 18, 6, 1, 0), (.getfield 59, 2, 1, 0), (.iload_n 2, 0, 0, 0), (.iastore, 0, 0, 0), (.aload_n 0, 0, 0, 0), (.getfield 18, 6, 1, 0), (.dup, 0, 0, 0), (.getfield 59, 2, 1, 0), (.iconst 1, 0, 0, (nI 1)), (.iadd, 0, 0, 0), (.putfield 59, 2, 1, 0), (.iconst 1, 0, 0, (nI 1))] [w] (by decide +kernel) rfl (pc' := 54) (ls' := [some (.ref 0), some (.int c), some (.int (numF c))]) (st' := [.int (nI 1)]) (M' := stm (stm M 76 w (numF c)) 71 1 ((M 71 1) + (nI 1))) rfl ⟨trivial, rfl, rfl, trivial, rfl, rfl, trivial, ⟨(by simp only [hw, nI_add, pk_mul, nI_s1, Nat.reduceAdd, Nat.reduceMul]), (by show _ < 12; omega), by decide⟩, trivial, rfl, rfl, rfl, trivial, trivial, rfl, trivial, trivial⟩ ?_
      refine g_ireturn (by decide +kernel) rfl (by decide +kernel) ?_
      unfold typeP; rw [if_neg (fun z => by rcases z with z | z; exact c1 z; omega), ← nI_add, ← hw]; exact ⟨rfl, rfl⟩
    · have nc2 : 12 ≤ w := by
        have z : ¬ nI w < nI 12 := by simpa only [hw, nI_add, pk_mul, nI_s1, n0_lit] using c2
        rw [nI_ltI (by omega) (by omega)] at z
        omega
      refine blk 6 [(.iconst 0, 0, 0, (nI 0))] [] (by decide +kernel) rfl (pc' := 23) (ls' := [some (.ref 0), some (.int c), some (.int (numF c))]) (st' := [.int (nI 0)]) (M' := M) rfl ⟨trivial, trivial⟩ ?_
      refine g_ireturn (by decide +kernel) rfl (by decide +kernel) ?_
      unfold typeP; rw [if_pos (by first | exact Or.inl c1 | exact Or.inr (by omega))]; exact ⟨rfl, rfl⟩
def shareF (a b : Int32) : Int32 := if nI 1 ≤ b then nI 1000 * a / b else nI 0
theorem s_share (M : Mem) (a b : Int32) : Spec mX6_share [.int a, .int b] M (Ret (shareF a b) M) := by
  refine Spec.of (by decide) (by simp [Value.category]) (Nat.le_of_ble_eq_true rfl) ?_
  refine blk 6 [(.iload_n 1, 0, 0, 0), (.iconst 1, 0, 0, (nI 1))] [] (by decide +kernel) rfl (pc' := 2) (ls' := [some (.int a), some (.int b)]) (st' := [.int (nI 1), .int b]) (M' := M) rfl ⟨trivial, trivial, trivial⟩ ?_
  refine g_icmp_ge (off := 7) (tgt := 9) (by decide +kernel) (by decide) (fun c1 => ?_) (fun c1 => ?_)
  · refine blk 6 [(.sipush 1000, 0, 0, (nI 1000)), (.iload_n 0, 0, 0, 0), (.imul, 0, 0, 0), (.iload_n 1, 0, 0, 0), (.idiv, 0, 0, 0)] [] (by decide +kernel) rfl (pc' := 16) (ls' := [some (.int a), some (.int b)]) (st' := [.int (((nI 1000) * a) / b)]) (M' := M) rfl ⟨trivial, trivial, trivial, trivial, (fun z => by rw [z] at c1; exact absurd c1 (by decide)), trivial⟩ ?_
    exact g_ireturn (by decide +kernel) rfl rfl ⟨by unfold shareF; simp [*], rfl⟩
  · refine blk 6 [(.iconst 0, 0, 0, (nI 0)), (.goto (10), 16, 0, 0)] [] (by decide +kernel) rfl (pc' := 16) (ls' := [some (.int a), some (.int b)]) (st' := [.int (nI 0)]) (M' := M) rfl ⟨trivial, trivial, trivial⟩ ?_
    exact g_ireturn (by decide +kernel) rfl rfl ⟨by unfold shareF; simp [*], rfl⟩
def wrdB (W i : Int32) : Bool := decide (¬ i < 0 ∧ ¬ W ≤ i)
theorem s_isWord (M : Mem) (i : Int32) : Spec mX6_isWord [.ref 0, .int i] M (Ret (bI (wrdB (M 0 7) i)) M) := by
  refine Spec.of (by decide) (by simp [Value.category]) (Nat.le_of_ble_eq_true rfl) ?_
  refine blk 6 [(.iload_n 1, 0, 0, 0)] [] (by decide +kernel) rfl (pc' := 1) (ls' := [some (.ref 0), some (.int i)]) (st' := [.int i]) (M' := M) rfl ⟨trivial, trivial⟩ ?_
  refine g_if_lt (off := 15) (tgt := 16) (by decide +kernel) (by decide) (fun c1 => ?_) (fun c1 => ?_)
  · refine blk 6 [(.iconst 0, 0, 0, (nI 0))] [] (by decide +kernel) rfl (pc' := 17) (ls' := [some (.ref 0), some (.int i)]) (st' := [.int (nI 0)]) (M' := M) rfl ⟨trivial, trivial⟩ ?_
    refine g_ireturn (by decide +kernel) rfl (by decide +kernel) ⟨?_, rfl⟩
    rw [show wrdB (M 0 7) i = false from decide_eq_false (fun z => by first | exact z.1 c1 | exact z.2 c2)]; rfl
  · refine blk 6 [(.iload_n 1, 0, 0, 0), (.aload_n 0, 0, 0, 0), (.getfield 67, 6, 7, 0)] [] (by decide +kernel) rfl (pc' := 9) (ls' := [some (.ref 0), some (.int i)]) (st' := [.int (M 0 7), .int i]) (M' := M) rfl ⟨trivial, trivial, rfl, trivial⟩ ?_
    refine g_icmp_ge (off := 7) (tgt := 16) (by decide +kernel) (by decide) (fun c2 => ?_) (fun c2 => ?_)
    · refine blk 6 [(.iconst 0, 0, 0, (nI 0))] [] (by decide +kernel) rfl (pc' := 17) (ls' := [some (.ref 0), some (.int i)]) (st' := [.int (nI 0)]) (M' := M) rfl ⟨trivial, trivial⟩ ?_
      refine g_ireturn (by decide +kernel) rfl (by decide +kernel) ⟨?_, rfl⟩
      rw [show wrdB (M 0 7) i = false from decide_eq_false (fun z => by first | exact z.1 c1 | exact z.2 c2)]; rfl
    · refine blk 6 [(.iconst 1, 0, 0, (nI 1)), (.goto (4), 17, 0, 0)] [] (by decide +kernel) rfl (pc' := 17) (ls' := [some (.ref 0), some (.int i)]) (st' := [.int (nI 1)]) (M' := M) rfl ⟨trivial, trivial, trivial⟩ ?_
      refine g_ireturn (by decide +kernel) rfl (by decide +kernel) ⟨?_, rfl⟩
      rw [show wrdB (M 0 7) i = true from decide_eq_true ⟨c1, c2⟩]; rfl
theorem s_areTwoWords (M : Mem) (i j : Int32) : Spec mX6_areTwoWords [.ref 0, .int i, .int j] M (Ret (bI (twoB (M 0 7) i j)) M) := by
  refine Spec.of (by decide) (by simp [Value.category]) (Nat.le_of_ble_eq_true rfl) ?_
  refine blk 6 [(.aload_n 0, 0, 0, 0), (.iload_n 1, 0, 0, 0)] [] (by decide +kernel) rfl (pc' := 2) (ls' := [some (.ref 0), some (.int i), some (.int j)]) (st' := [.int i, .ref 0]) (M' := M) rfl ⟨trivial, trivial, trivial⟩ ?_
  refine g_callV (s_isWord _ i) ok_X6_areTwoWords_X6_isWord (by decide +kernel) rfl (c := 6) rfl (by decide) rfl (Nat.le_of_ble_eq_true rfl) (fun r M' h => ?_) rfl
  obtain ⟨hr, hM⟩ := h
  rw [hr, hM]
  show G _ 5 [some (.ref 0), some (.int i), some (.int j)] [.int (bI (wrdB (M 0 7) i))] M _
  refine g_if_eq (off := 20) (tgt := 25) (by decide +kernel) (by decide) (fun c1 => ?_) (fun c1 => ?_)
  · refine blk 6 [(.iconst 0, 0, 0, (nI 0))] [] (by decide +kernel) rfl (pc' := 26) (ls' := [some (.ref 0), some (.int i), some (.int j)]) (st' := [.int (nI 0)]) (M' := M) rfl ⟨trivial, trivial⟩ ?_
    refine g_ireturn (by decide +kernel) rfl (by decide +kernel) ⟨?_, rfl⟩
    rw [show twoB (M 0 7) i j = false from decide_eq_false (fun z => of_decide_eq_false (bI_eq c1) ⟨z.1, z.2.1⟩)]; rfl
  · refine blk 6 [(.aload_n 0, 0, 0, 0), (.iload_n 2, 0, 0, 0)] [] (by decide +kernel) rfl (pc' := 10) (ls' := [some (.ref 0), some (.int i), some (.int j)]) (st' := [.int j, .ref 0]) (M' := M) rfl ⟨trivial, trivial, trivial⟩ ?_
    refine g_callV (s_isWord _ j) ok_X6_areTwoWords_X6_isWord (by decide +kernel) rfl (c := 6) rfl (by decide) rfl (Nat.le_of_ble_eq_true rfl) (fun r M' h => ?_) rfl
    obtain ⟨hr, hM⟩ := h
    rw [hr, hM]
    show G _ 13 [some (.ref 0), some (.int i), some (.int j)] [.int (bI (wrdB (M 0 7) j))] M _
    refine g_if_eq (off := 12) (tgt := 25) (by decide +kernel) (by decide) (fun c2 => ?_) (fun c2 => ?_)
    · refine blk 6 [(.iconst 0, 0, 0, (nI 0))] [] (by decide +kernel) rfl (pc' := 26) (ls' := [some (.ref 0), some (.int i), some (.int j)]) (st' := [.int (nI 0)]) (M' := M) rfl ⟨trivial, trivial⟩ ?_
      refine g_ireturn (by decide +kernel) rfl (by decide +kernel) ⟨?_, rfl⟩
      rw [show twoB (M 0 7) i j = false from decide_eq_false (fun z => of_decide_eq_false (bI_eq c2) ⟨z.2.2.1, z.2.2.2.1⟩)]; rfl
    · refine blk 6 [(.iload_n 1, 0, 0, 0), (.iload_n 2, 0, 0, 0)] [] (by decide +kernel) rfl (pc' := 18) (ls' := [some (.ref 0), some (.int i), some (.int j)]) (st' := [.int j, .int i]) (M' := M) rfl ⟨trivial, trivial, trivial⟩ ?_
      refine g_icmp_eq (off := 7) (tgt := 25) (by decide +kernel) (by decide) (fun c3 => ?_) (fun c3 => ?_)
      · refine blk 6 [(.iconst 0, 0, 0, (nI 0))] [] (by decide +kernel) rfl (pc' := 26) (ls' := [some (.ref 0), some (.int i), some (.int j)]) (st' := [.int (nI 0)]) (M' := M) rfl ⟨trivial, trivial⟩ ?_
        refine g_ireturn (by decide +kernel) rfl (by decide +kernel) ⟨?_, rfl⟩
        rw [show twoB (M 0 7) i j = false from decide_eq_false (fun z => z.2.2.2.2 c3)]; rfl
      · refine blk 6 [(.iconst 1, 0, 0, (nI 1)), (.goto (4), 26, 0, 0)] [] (by decide +kernel) rfl (pc' := 26) (ls' := [some (.ref 0), some (.int i), some (.int j)]) (st' := [.int (nI 1)]) (M' := M) rfl ⟨trivial, trivial, trivial⟩ ?_
        refine g_ireturn (by decide +kernel) rfl (by decide +kernel) ⟨?_, rfl⟩
        have z1 := of_decide_eq_true (bI_ne c1); have z2 := of_decide_eq_true (bI_ne c2)
        rw [show twoB (M 0 7) i j = true from decide_eq_true ⟨z1.1, z1.2, z2.1, z2.2, c3⟩]; rfl
def cgapsP (M : Mem) (a b : Int32) : Option Value → Mem → Prop := fun r N => if ¬ a < 0 ∧ ¬ nI 20 < a ∧ ¬ b < 0 ∧ b ≤ nI 20 then r = some (.int 1) ∧ N = stm (stm (stm M 2 1 a) 2 2 b) 0 11 (nI 0) else r = some (.int 0) ∧ N = M
theorem s_gaps (M : Mem) (a b : Int32) : Spec mX6_gaps [.ref 0, .int a, .int b] M (cgapsP M a b) := by
  refine Spec.of (by decide) (by simp [Value.category]) (Nat.le_of_ble_eq_true rfl) ?_
  refine blk 6 [(.iload_n 1, 0, 0, 0)] [] (by decide +kernel) rfl (pc' := 1) (ls' := [some (.ref 0), some (.int a), some (.int b)]) (st' := [.int a]) (M' := M) rfl ⟨trivial, trivial⟩ ?_
  refine g_if_lt (off := 19) (tgt := 20) (by decide +kernel) (by decide) (fun c1 => ?_) (fun c1 => ?_)
  · refine blk 6 [(.iconst 0, 0, 0, (nI 0))] [] (by decide +kernel) rfl (pc' := 21) (ls' := [some (.ref 0), some (.int a), some (.int b)]) (st' := [.int (nI 0)]) (M' := M) rfl ⟨trivial, trivial⟩ ?_
    refine g_ireturn (by decide +kernel) rfl (by decide +kernel) ?_
    unfold cgapsP; rw [if_neg (fun z => by obtain ⟨z1, z2, z3, z4⟩ := z; first | exact z1 c1 | exact z2 c2 | exact z3 c3 | exact c4 z4)]; exact ⟨rfl, rfl⟩
  · refine blk 6 [(.iload_n 1, 0, 0, 0), (.bipush 20, 0, 0, (nI 20))] [] (by decide +kernel) rfl (pc' := 7) (ls' := [some (.ref 0), some (.int a), some (.int b)]) (st' := [.int (nI 20), .int a]) (M' := M) rfl ⟨trivial, trivial, trivial⟩ ?_
    refine g_icmp_gt (off := 13) (tgt := 20) (by decide +kernel) (by decide) (fun c2 => ?_) (fun c2 => ?_)
    · refine blk 6 [(.iconst 0, 0, 0, (nI 0))] [] (by decide +kernel) rfl (pc' := 21) (ls' := [some (.ref 0), some (.int a), some (.int b)]) (st' := [.int (nI 0)]) (M' := M) rfl ⟨trivial, trivial⟩ ?_
      refine g_ireturn (by decide +kernel) rfl (by decide +kernel) ?_
      unfold cgapsP; rw [if_neg (fun z => by obtain ⟨z1, z2, z3, z4⟩ := z; first | exact z1 c1 | exact z2 c2 | exact z3 c3 | exact c4 z4)]; exact ⟨rfl, rfl⟩
    · refine blk 6 [(.iload_n 2, 0, 0, 0)] [] (by decide +kernel) rfl (pc' := 11) (ls' := [some (.ref 0), some (.int a), some (.int b)]) (st' := [.int b]) (M' := M) rfl ⟨trivial, trivial⟩ ?_
      refine g_if_lt (off := 9) (tgt := 20) (by decide +kernel) (by decide) (fun c3 => ?_) (fun c3 => ?_)
      · refine blk 6 [(.iconst 0, 0, 0, (nI 0))] [] (by decide +kernel) rfl (pc' := 21) (ls' := [some (.ref 0), some (.int a), some (.int b)]) (st' := [.int (nI 0)]) (M' := M) rfl ⟨trivial, trivial⟩ ?_
        refine g_ireturn (by decide +kernel) rfl (by decide +kernel) ?_
        unfold cgapsP; rw [if_neg (fun z => by obtain ⟨z1, z2, z3, z4⟩ := z; first | exact z1 c1 | exact z2 c2 | exact z3 c3 | exact c4 z4)]; exact ⟨rfl, rfl⟩
      · refine blk 6 [(.iload_n 2, 0, 0, 0), (.bipush 20, 0, 0, (nI 20))] [] (by decide +kernel) rfl (pc' := 17) (ls' := [some (.ref 0), some (.int a), some (.int b)]) (st' := [.int (nI 20), .int b]) (M' := M) rfl ⟨trivial, trivial, trivial⟩ ?_
        refine g_icmp_le (off := 5) (tgt := 22) (by decide +kernel) (by decide) (fun c4 => ?_) (fun c4 => ?_)
        · refine blk 6 [(.aload_n 0, 0, 0, 0), (.getfield 25, 6, 2, 0), (.iload_n 1, 0, 0, 0), (.putfield 81, 0, 1, 0), (.aload_n 0, 0, 0, 0), (.getfield 25, 6, 2, 0), (.iload_n 2, 0, 0, 0), (.putfield 84, 0, 2, 0), (.aload_n 0, 0, 0, 0), (.iconst 0, 0, 0, (nI 0)), (.putfield 74, 6, 11, 0), (.iconst 1, 0, 0, (nI 1))] [] (by decide +kernel) rfl (pc' := 44) (ls' := [some (.ref 0), some (.int a), some (.int b)]) (st' := [.int (nI 1)]) (M' := stm (stm (stm M 2 1 a) 2 2 b) 0 11 (nI 0)) rfl ⟨trivial, rfl, trivial, rfl, trivial, rfl, trivial, rfl, trivial, trivial, ⟨rfl, Or.inl rfl⟩, trivial, trivial⟩ ?_
          refine g_ireturn (by decide +kernel) rfl (by decide +kernel) ?_
          unfold cgapsP; rw [if_pos ⟨c1, c2, c3, c4⟩]; exact ⟨rfl, rfl⟩
        · refine blk 6 [(.iconst 0, 0, 0, (nI 0))] [] (by decide +kernel) rfl (pc' := 21) (ls' := [some (.ref 0), some (.int a), some (.int b)]) (st' := [.int (nI 0)]) (M' := M) rfl ⟨trivial, trivial⟩ ?_
          refine g_ireturn (by decide +kernel) rfl (by decide +kernel) ?_
          unfold cgapsP; rw [if_neg (fun z => by obtain ⟨z1, z2, z3, z4⟩ := z; first | exact z1 c1 | exact z2 c2 | exact z3 c3 | exact c4 z4)]; exact ⟨rfl, rfl⟩
theorem s_settings (M : Mem) {a b c : Int32} (ha : a = 0 ∨ a = 1) (hb : b = 0 ∨ b = 1) (hc : c = 0 ∨ c = 1) : Spec mX6_settings [.ref 0, .int a, .int b, .int c] M (fun r N => r = none ∧ N = stm (stm (stm (stm M 0 8 a) 0 9 b) 0 10 c) 0 11 (nI 0)) := by
  refine Spec.of (by decide) (by simp [Value.category]) (Nat.le_of_ble_eq_true rfl) ?_
  refine blk 6 [(.aload_n 0, 0, 0, 0), (.iload_n 1, 0, 0, 0), (.putfield 87, 6, 8, 0), (.aload_n 0, 0, 0, 0), (.iload_n 2, 0, 0, 0), (.putfield 90, 6, 9, 0), (.aload_n 0, 0, 0, 0), (.iload_n 3, 0, 0, 0), (.putfield 93, 6, 10, 0), (.aload_n 0, 0, 0, 0), (.iconst 0, 0, 0, (nI 0)), (.putfield 74, 6, 11, 0)] [] (by decide +kernel) rfl (pc' := 20) (ls' := [some (.ref 0), some (.int a), some (.int b), some (.int c)]) (st' := []) (M' := stm (stm (stm (stm M 0 8 a) 0 9 b) 0 10 c) 0 11 (nI 0)) rfl ⟨trivial, trivial, ⟨rfl, (by assumption)⟩, trivial, trivial, ⟨rfl, (by assumption)⟩, trivial, trivial, ⟨rfl, (by assumption)⟩, trivial, trivial, ⟨rfl, Or.inl rfl⟩, trivial⟩ ?_
  exact g_return (by decide +kernel) rfl ⟨rfl, rfl⟩
theorem s_words (M : Mem) : Spec mX6_words [.ref 0] M (Ret (M 0 7) M) := by
  refine Spec.of (by decide) (by simp [Value.category]) (Nat.le_of_ble_eq_true rfl) ?_
  refine blk 6 [(.aload_n 0, 0, 0, 0), (.getfield 67, 6, 7, 0)] [] (by decide +kernel) rfl (pc' := 4) (ls' := [some (.ref 0)]) (st' := [.int (M 0 7)]) (M' := M) rfl ⟨trivial, rfl, trivial⟩ ?_
  exact g_ireturn (by decide +kernel) rfl rfl ⟨rfl, rfl⟩
theorem s_score1 (M : Mem) {x y : Nat} {v : Int32} (hx : x < 4) (hy : y < 4) (hv1 : ¬ v < -20) (hv2 : v ≤ nI 20) : Spec mX6_score [.ref 0, .int (nI x), .int (nI y), .int v] M (fun r N => r = some (.int 1) ∧ N = stm (stm (stm M 3 (x * 4 + y) v) 3 (y * 4 + x) v) 0 11 (nI 0)) := by
  refine Spec.of (by decide) (by simp [Value.category]) (Nat.le_of_ble_eq_true rfl) ?_
  refine blk 6 [(.iload_n 1, 0, 0, 0)] [] (by decide +kernel) rfl (pc' := 1) (ls' := [some (.ref 0), some (.int (nI x)), some (.int (nI y)), some (.int v)]) (st' := [.int (nI x)]) (M' := M) rfl ⟨trivial, trivial⟩ ?_
  refine g_if_lt (off := 17) (tgt := 18) (by decide +kernel) (by decide) (fun c1 => ?_) (fun c1 => ?_)
  · have nc1 : x < 0 := (nI_ltI (by omega) (by omega)).mp (by simpa only [nI_add, pk_mul, nI_s1, n0_lit] using c1)
    refine blk 6 [(.iconst 0, 0, 0, (nI 0))] [] (by decide +kernel) rfl (pc' := 19) (ls' := [some (.ref 0), some (.int (nI x)), some (.int (nI y)), some (.int v)]) (st' := [.int (nI 0)]) (M' := M) rfl ⟨trivial, trivial⟩ ?_
    exfalso
    first | omega | exact hv1 c5 | exact c6 hv2
  · have nc1 : 0 ≤ x := by
      have z : ¬ nI x < nI 0 := by simpa only [nI_add, pk_mul, nI_s1, n0_lit] using c1
      rw [nI_ltI (by omega) (by omega)] at z
      omega
    refine blk 6 [(.iload_n 1, 0, 0, 0), (.iconst 4, 0, 0, (nI 4))] [] (by decide +kernel) rfl (pc' := 6) (ls' := [some (.ref 0), some (.int (nI x)), some (.int (nI y)), some (.int v)]) (st' := [.int (nI 4), .int (nI x)]) (M' := M) rfl ⟨trivial, trivial, trivial⟩ ?_
    refine g_icmp_ge (off := 12) (tgt := 18) (by decide +kernel) (by decide) (fun c2 => ?_) (fun c2 => ?_)
    · have nc2 : 4 ≤ x := (nI_leI (by omega) (by omega)).mp (by simpa only [nI_add, pk_mul, nI_s1, n0_lit] using c2)
      refine blk 6 [(.iconst 0, 0, 0, (nI 0))] [] (by decide +kernel) rfl (pc' := 19) (ls' := [some (.ref 0), some (.int (nI x)), some (.int (nI y)), some (.int v)]) (st' := [.int (nI 0)]) (M' := M) rfl ⟨trivial, trivial⟩ ?_
      exfalso
      first | omega | exact hv1 c5 | exact c6 hv2
    · have nc2 : x < 4 := by
        have z : ¬ nI 4 ≤ nI x := by simpa only [nI_add, pk_mul, nI_s1, n0_lit] using c2
        rw [nI_leI (by omega) (by omega)] at z
        omega
      refine blk 6 [(.iload_n 2, 0, 0, 0)] [] (by decide +kernel) rfl (pc' := 10) (ls' := [some (.ref 0), some (.int (nI x)), some (.int (nI y)), some (.int v)]) (st' := [.int (nI y)]) (M' := M) rfl ⟨trivial, trivial⟩ ?_
      refine g_if_lt (off := 8) (tgt := 18) (by decide +kernel) (by decide) (fun c3 => ?_) (fun c3 => ?_)
      · have nc3 : y < 0 := (nI_ltI (by omega) (by omega)).mp (by simpa only [nI_add, pk_mul, nI_s1, n0_lit] using c3)
        refine blk 6 [(.iconst 0, 0, 0, (nI 0))] [] (by decide +kernel) rfl (pc' := 19) (ls' := [some (.ref 0), some (.int (nI x)), some (.int (nI y)), some (.int v)]) (st' := [.int (nI 0)]) (M' := M) rfl ⟨trivial, trivial⟩ ?_
        exfalso
        first | omega | exact hv1 c5 | exact c6 hv2
      · have nc3 : 0 ≤ y := by
          have z : ¬ nI y < nI 0 := by simpa only [nI_add, pk_mul, nI_s1, n0_lit] using c3
          rw [nI_ltI (by omega) (by omega)] at z
          omega
        refine blk 6 [(.iload_n 2, 0, 0, 0), (.iconst 4, 0, 0, (nI 4))] [] (by decide +kernel) rfl (pc' := 15) (ls' := [some (.ref 0), some (.int (nI x)), some (.int (nI y)), some (.int v)]) (st' := [.int (nI 4), .int (nI y)]) (M' := M) rfl ⟨trivial, trivial, trivial⟩ ?_
        refine g_icmp_lt (off := 5) (tgt := 20) (by decide +kernel) (by decide) (fun c4 => ?_) (fun c4 => ?_)
        · have nc4 : y < 4 := (nI_ltI (by omega) (by omega)).mp (by simpa only [nI_add, pk_mul, nI_s1, n0_lit] using c4)
          refine blk 6 [(.iload_n 3, 0, 0, 0), (.bipush (-20), 0, 0, (-20))] [] (by decide +kernel) rfl (pc' := 23) (ls' := [some (.ref 0), some (.int (nI x)), some (.int (nI y)), some (.int v)]) (st' := [.int (-20), .int v]) (M' := M) rfl ⟨trivial, trivial, trivial⟩ ?_
          refine g_icmp_lt (off := 9) (tgt := 32) (by decide +kernel) (by decide) (fun c5 => ?_) (fun c5 => ?_)
          · refine blk 6 [(.iconst 0, 0, 0, (nI 0))] [] (by decide +kernel) rfl (pc' := 33) (ls' := [some (.ref 0), some (.int (nI x)), some (.int (nI y)), some (.int v)]) (st' := [.int (nI 0)]) (M' := M) rfl ⟨trivial, trivial⟩ ?_
            exfalso
            first | omega | exact hv1 c5 | exact c6 hv2
          · refine blk 6 [(.iload_n 3, 0, 0, 0), (.bipush 20, 0, 0, (nI 20))] [] (by decide +kernel) rfl (pc' := 29) (ls' := [some (.ref 0), some (.int (nI x)), some (.int (nI y)), some (.int v)]) (st' := [.int (nI 20), .int v]) (M' := M) rfl ⟨trivial, trivial, trivial⟩ ?_
            refine g_icmp_le (off := 5) (tgt := 34) (by decide +kernel) (by decide) (fun c6 => ?_) (fun c6 => ?_)
            · refine blk 6 [(.aload_n 0, 0, 0, 0), (.getfield 25, 6, 2, 0), (.getfield 78, 0, 0, 0), (.iload_n 1, 0, 0, 0), (.iconst 4, 0, 0, (nI 4)), (.imul, 0, 0, 0), (.iload_n 2, 0, 0, 0), (.iadd, 0, 0, 0), (.iload_n 3, 0, 0, 0), (.iastore, 0, 0, 0), (.aload_n 0, 0, 0, 0), (.getfield 25, 6, 2, 0), (.getfield 78, 0, 0, 0), (.iload_n 2, 0, 0, 0), (.iconst 4, 0, 0, (nI 4)), (.imul, 0, 0, 0), (.iload_n 1, 0, 0, 0), (.iadd, 0, 0, 0), (.iload_n 3, 0, 0, 0), (.iastore, 0, 0, 0), (.aload_n 0, 0, 0, 0), (.iconst 0, 0, 0, (nI 0)), (.putfield 74, 6, 11, 0), (.iconst 1, 0, 0, (nI 1))] [x * 4 + y, y * 4 + x] (by decide +kernel) rfl (pc' := 68) (ls' := [some (.ref 0), some (.int (nI x)), some (.int (nI y)), some (.int v)]) (st' := [.int (nI 1)]) (M' := stm (stm (stm M 3 (x * 4 + y) v) 3 (y * 4 + x) v) 0 11 (nI 0)) rfl ⟨trivial, rfl, rfl, trivial, trivial, trivial, trivial, trivial, trivial, ⟨(by simp only [nI_add, pk_mul, nI_s1, Nat.reduceAdd, Nat.reduceMul]), (by show _ < 16; omega), by decide⟩, trivial, rfl, rfl, trivial, trivial, trivial, trivial, trivial, trivial, ⟨(by simp only [nI_add, pk_mul, nI_s1, Nat.reduceAdd, Nat.reduceMul]), (by show _ < 16; omega), by decide⟩, trivial, trivial, ⟨rfl, Or.inl rfl⟩, trivial, trivial⟩ ?_
              exact g_ireturn (by decide +kernel) rfl (by decide +kernel) ⟨rfl, rfl⟩
            · refine blk 6 [(.iconst 0, 0, 0, (nI 0))] [] (by decide +kernel) rfl (pc' := 33) (ls' := [some (.ref 0), some (.int (nI x)), some (.int (nI y)), some (.int v)]) (st' := [.int (nI 0)]) (M' := M) rfl ⟨trivial, trivial⟩ ?_
              exfalso
              first | omega | exact hv1 c5 | exact c6 hv2
        · have nc4 : 4 ≤ y := by
            have z : ¬ nI y < nI 4 := by simpa only [nI_add, pk_mul, nI_s1, n0_lit] using c4
            rw [nI_ltI (by omega) (by omega)] at z
            omega
          refine blk 6 [(.iconst 0, 0, 0, (nI 0))] [] (by decide +kernel) rfl (pc' := 19) (ls' := [some (.ref 0), some (.int (nI x)), some (.int (nI y)), some (.int v)]) (st' := [.int (nI 0)]) (M' := M) rfl ⟨trivial, trivial⟩ ?_
          exfalso
          first | omega | exact hv1 c5 | exact c6 hv2
theorem s_score0 (M : Mem) {x y v : Int32} (hno : ¬ (¬ x < 0 ∧ ¬ nI 4 ≤ x ∧ ¬ y < 0 ∧ y < nI 4 ∧ ¬ v < -20 ∧ v ≤ nI 20)) : Spec mX6_score [.ref 0, .int x, .int y, .int v] M (Ret 0 M) := by
  refine Spec.of (by decide) (by simp [Value.category]) (Nat.le_of_ble_eq_true rfl) ?_
  refine blk 6 [(.iload_n 1, 0, 0, 0)] [] (by decide +kernel) rfl (pc' := 1) (ls' := [some (.ref 0), some (.int x), some (.int y), some (.int v)]) (st' := [.int x]) (M' := M) rfl ⟨trivial, trivial⟩ ?_
  refine g_if_lt (off := 17) (tgt := 18) (by decide +kernel) (by decide) (fun c1 => ?_) (fun c1 => ?_)
  · refine blk 6 [(.iconst 0, 0, 0, (nI 0))] [] (by decide +kernel) rfl (pc' := 19) (ls' := [some (.ref 0), some (.int x), some (.int y), some (.int v)]) (st' := [.int (nI 0)]) (M' := M) rfl ⟨trivial, trivial⟩ ?_
    exact g_ireturn (by decide +kernel) rfl (by decide +kernel) ⟨rfl, rfl⟩
  · refine blk 6 [(.iload_n 1, 0, 0, 0), (.iconst 4, 0, 0, (nI 4))] [] (by decide +kernel) rfl (pc' := 6) (ls' := [some (.ref 0), some (.int x), some (.int y), some (.int v)]) (st' := [.int (nI 4), .int x]) (M' := M) rfl ⟨trivial, trivial, trivial⟩ ?_
    refine g_icmp_ge (off := 12) (tgt := 18) (by decide +kernel) (by decide) (fun c2 => ?_) (fun c2 => ?_)
    · refine blk 6 [(.iconst 0, 0, 0, (nI 0))] [] (by decide +kernel) rfl (pc' := 19) (ls' := [some (.ref 0), some (.int x), some (.int y), some (.int v)]) (st' := [.int (nI 0)]) (M' := M) rfl ⟨trivial, trivial⟩ ?_
      exact g_ireturn (by decide +kernel) rfl (by decide +kernel) ⟨rfl, rfl⟩
    · refine blk 6 [(.iload_n 2, 0, 0, 0)] [] (by decide +kernel) rfl (pc' := 10) (ls' := [some (.ref 0), some (.int x), some (.int y), some (.int v)]) (st' := [.int y]) (M' := M) rfl ⟨trivial, trivial⟩ ?_
      refine g_if_lt (off := 8) (tgt := 18) (by decide +kernel) (by decide) (fun c3 => ?_) (fun c3 => ?_)
      · refine blk 6 [(.iconst 0, 0, 0, (nI 0))] [] (by decide +kernel) rfl (pc' := 19) (ls' := [some (.ref 0), some (.int x), some (.int y), some (.int v)]) (st' := [.int (nI 0)]) (M' := M) rfl ⟨trivial, trivial⟩ ?_
        exact g_ireturn (by decide +kernel) rfl (by decide +kernel) ⟨rfl, rfl⟩
      · refine blk 6 [(.iload_n 2, 0, 0, 0), (.iconst 4, 0, 0, (nI 4))] [] (by decide +kernel) rfl (pc' := 15) (ls' := [some (.ref 0), some (.int x), some (.int y), some (.int v)]) (st' := [.int (nI 4), .int y]) (M' := M) rfl ⟨trivial, trivial, trivial⟩ ?_
        refine g_icmp_lt (off := 5) (tgt := 20) (by decide +kernel) (by decide) (fun c4 => ?_) (fun c4 => ?_)
        · refine blk 6 [(.iload_n 3, 0, 0, 0), (.bipush (-20), 0, 0, (-20))] [] (by decide +kernel) rfl (pc' := 23) (ls' := [some (.ref 0), some (.int x), some (.int y), some (.int v)]) (st' := [.int (-20), .int v]) (M' := M) rfl ⟨trivial, trivial, trivial⟩ ?_
          refine g_icmp_lt (off := 9) (tgt := 32) (by decide +kernel) (by decide) (fun c5 => ?_) (fun c5 => ?_)
          · refine blk 6 [(.iconst 0, 0, 0, (nI 0))] [] (by decide +kernel) rfl (pc' := 33) (ls' := [some (.ref 0), some (.int x), some (.int y), some (.int v)]) (st' := [.int (nI 0)]) (M' := M) rfl ⟨trivial, trivial⟩ ?_
            exact g_ireturn (by decide +kernel) rfl (by decide +kernel) ⟨rfl, rfl⟩
          · refine blk 6 [(.iload_n 3, 0, 0, 0), (.bipush 20, 0, 0, (nI 20))] [] (by decide +kernel) rfl (pc' := 29) (ls' := [some (.ref 0), some (.int x), some (.int y), some (.int v)]) (st' := [.int (nI 20), .int v]) (M' := M) rfl ⟨trivial, trivial, trivial⟩ ?_
            refine g_icmp_le (off := 5) (tgt := 34) (by decide +kernel) (by decide) (fun c6 => ?_) (fun c6 => ?_)
            · exact absurd ⟨c1, c2, c3, c4, c5, c6⟩ hno
            · refine blk 6 [(.iconst 0, 0, 0, (nI 0))] [] (by decide +kernel) rfl (pc' := 33) (ls' := [some (.ref 0), some (.int x), some (.int y), some (.int v)]) (st' := [.int (nI 0)]) (M' := M) rfl ⟨trivial, trivial⟩ ?_
              exact g_ireturn (by decide +kernel) rfl (by decide +kernel) ⟨rfl, rfl⟩
        · refine blk 6 [(.iconst 0, 0, 0, (nI 0))] [] (by decide +kernel) rfl (pc' := 19) (ls' := [some (.ref 0), some (.int x), some (.int y), some (.int v)]) (st' := [.int (nI 0)]) (M' := M) rfl ⟨trivial, trivial⟩ ?_
          exact g_ireturn (by decide +kernel) rfl (by decide +kernel) ⟨rfl, rfl⟩
end
section
/-! the class: end, columns, child, worth, weight, total, at, mark -/
def endP (M : Mem) (n w : Nat) : Option Value → Mem → Prop := fun r N => r = some (.int (nI n)) ∧ N (41 + n) 1 = nI w ∧ (∀ k, k < w → N (41 + n + 5) k = M 76 k) ∧ N 71 1 = nI 0 ∧ N 0 7 = nI (n + 1) ∧ N 0 11 = nI 0 ∧ (∀ f, f ≠ 7 → f ≠ 11 → N 0 f = M 0 f) ∧ ∀ z, z ≠ 0 → z ≠ 71 → z ≠ 41 + n → z ≠ 41 + n + 5 → N z = M z
theorem s_end1 (M : Mem) {n w : Nat} (hw : M 71 1 = nI w) (hn : M 0 7 = nI n) (h0 : 0 < w) (hw12 : w ≤ 12) (hn5 : n < 5) : Spec mX6_end [.ref 0] M (endP M n w) := by
  refine Spec.of (by decide) (by simp [Value.category]) (Nat.le_of_ble_eq_true rfl) ?_
  refine blk 6 [(.aload_n 0, 0, 0, 0), (.getfield 18, 6, 1, 0), (.getfield 59, 2, 1, 0)] [] (by decide +kernel) rfl (pc' := 7) (ls' := [some (.ref 0)]) (st' := [.int (M 71 1)]) (M' := M) rfl ⟨trivial, rfl, rfl, trivial⟩ ?_
  refine g_if_eq (off := 11) (tgt := 18) (by decide +kernel) (by decide) (fun c1 => ?_) (fun c1 => ?_)
  · have nc1 : w = 0 := (nI_eq (by omega) (by omega)).mp (by simpa only [hw, hn, hn, nI_add, pk_mul, nI_s1, n0_lit] using c1)
    refine blk 6 [(.iconst (-1), 0, 0, (-1))] [] (by decide +kernel) rfl (pc' := 19) (ls' := [some (.ref 0)]) (st' := [.int (-1)]) (M' := M) rfl ⟨trivial, trivial⟩ ?_
    exfalso
    omega
  · have nc1 : w ≠ 0 := by
      have z : ¬ nI w = nI 0 := by simpa only [hw, hn, hn, nI_add, pk_mul, nI_s1, n0_lit] using c1
      rw [nI_eq (by omega) (by omega)] at z
      omega
    refine blk 6 [(.aload_n 0, 0, 0, 0), (.getfield 67, 6, 7, 0), (.iconst 5, 0, 0, (nI 5))] [] (by decide +kernel) rfl (pc' := 15) (ls' := [some (.ref 0)]) (st' := [.int (nI 5), .int (M 0 7)]) (M' := M) rfl ⟨trivial, rfl, trivial, trivial⟩ ?_
    refine g_icmp_lt (off := 5) (tgt := 20) (by decide +kernel) (by decide) (fun c2 => ?_) (fun c2 => ?_)
    · have nc2 : n < 5 := (nI_ltI (by omega) (by omega)).mp (by simpa only [hw, hn, hn, nI_add, pk_mul, nI_s1, n0_lit] using c2)
      refine blk 6 [(.aload_n 0, 0, 0, 0), (.getfield 11, 6, 0, 0), (.aload_n 0, 0, 0, 0), (.getfield 67, 6, 7, 0), (.aaload, 0, 0, 0), (.aload_n 0, 0, 0, 0), (.getfield 18, 6, 1, 0)] [n] (by decide +kernel) rfl (pc' := 33) (ls' := [some (.ref 0)]) (st' := [.ref 71, .ref (41 + n)]) (M' := M) rfl ⟨trivial, rfl, trivial, rfl, ⟨(by simp only [hw, hn, hn, nI_add, pk_mul, nI_s1, Nat.reduceAdd, Nat.reduceMul]), (by show _ < 5; omega)⟩, trivial, rfl, trivial⟩ ?_
      refine g_callV (s_copy M (t := 41 + n) (u := 71) (w := w) (kd41 (by omega)) rfl hw (by rw [al46 (by omega)]; omega) (by show w ≤ 12; omega) (by omega) (by decide) (kd46 (by omega)) rfl (by omega)) ok_X6_end_X2_copy (by decide +kernel) rfl (c := 2) (kd41 (by omega)) (by decide) rfl (Nat.le_of_ble_eq_true rfl) (fun r A h => ?_) (by rfl)
      obtain ⟨hr, a1, a2, a3⟩ := h
      rw [hr]
      have a0 : A 0 = M 0 := a3 0 (by omega) (by omega)
      have hnA : A 0 7 = nI n := by rw [a0]; exact hn
      show G _ 36 [some (.ref 0)] [] A _
      refine blk 6 [(.aload_n 0, 0, 0, 0), (.getfield 18, 6, 1, 0), (.iconst 0, 0, 0, (nI 0)), (.putfield 59, 2, 1, 0), (.aload_n 0, 0, 0, 0), (.dup, 0, 0, 0), (.getfield 67, 6, 7, 0), (.iconst 1, 0, 0, (nI 1)), (.iadd, 0, 0, 0), (.putfield 67, 6, 7, 0), (.aload_n 0, 0, 0, 0), (.iconst 0, 0, 0, (nI 0)), (.putfield 74, 6, 11, 0), (.aload_n 0, 0, 0, 0), (.getfield 67, 6, 7, 0), (.iconst 1, 0, 0, (nI 1)), (.isub, 0, 0, 0)] [] (by decide +kernel) rfl (pc' := 65) (ls' := [some (.ref 0)]) (st' := [.int (((A 0 7) + (nI 1)) - (nI 1))]) (M' := stm (stm (stm A 71 1 (nI 0)) 0 7 ((A 0 7) + (nI 1))) 0 11 (nI 0)) rfl ⟨trivial, rfl, trivial, rfl, trivial, rfl, rfl, trivial, trivial, rfl, trivial, trivial, ⟨rfl, Or.inl rfl⟩, trivial, rfl, trivial, trivial, trivial⟩ ?_
      refine g_ireturn (by decide +kernel) rfl rfl ⟨congrArg some (congrArg Value.int ?_), ?_, fun k hk => ?_, ?_, ?_, ?_, fun f h1 h2 => ?_, fun z h1 h2 h3 h4 => ?_⟩
      · rw [hnA, nI_add, nI_s1]
      · rw [stm_ne (by omega), stm_ne (by omega), stm_ne (by omega)]; exact a1
      · rw [stm_ne (by omega), stm_ne (by omega), stm_ne (by omega)]; exact a2 k hk
      · rw [stm_ne (by decide), stm_ne (by decide), stm_self]
      · rw [stm_off (by decide), stm_self, hnA, nI_add]
      · rw [stm_self]
      · rw [stm_off h2, stm_off h1, stm_ne (by decide), a0]
      · rw [stm_ne h1, stm_ne h1, stm_ne h2]; exact a3 z h3 h4
    · have nc2 : 5 ≤ n := by
        have z : ¬ nI n < nI 5 := by simpa only [hw, hn, hn, nI_add, pk_mul, nI_s1, n0_lit] using c2
        rw [nI_ltI (by omega) (by omega)] at z
        omega
      refine blk 6 [(.iconst (-1), 0, 0, (-1))] [] (by decide +kernel) rfl (pc' := 19) (ls' := [some (.ref 0)]) (st' := [.int (-1)]) (M' := M) rfl ⟨trivial, trivial⟩ ?_
      exfalso
      omega
theorem s_end0 (M : Mem) {n w : Nat} (hw : M 71 1 = nI w) (hn : M 0 7 = nI n) (hw12 : w ≤ 12) (hn5 : n ≤ 5) (hno : w = 0 ∨ n = 5) : Spec mX6_end [.ref 0] M (Ret (-1) M) := by
  refine Spec.of (by decide) (by simp [Value.category]) (Nat.le_of_ble_eq_true rfl) ?_
  refine blk 6 [(.aload_n 0, 0, 0, 0), (.getfield 18, 6, 1, 0), (.getfield 59, 2, 1, 0)] [] (by decide +kernel) rfl (pc' := 7) (ls' := [some (.ref 0)]) (st' := [.int (M 71 1)]) (M' := M) rfl ⟨trivial, rfl, rfl, trivial⟩ ?_
  refine g_if_eq (off := 11) (tgt := 18) (by decide +kernel) (by decide) (fun c1 => ?_) (fun c1 => ?_)
  · have nc1 : w = 0 := (nI_eq (by omega) (by omega)).mp (by simpa only [hw, hn, nI_add, pk_mul, nI_s1, n0_lit] using c1)
    refine blk 6 [(.iconst (-1), 0, 0, (-1))] [] (by decide +kernel) rfl (pc' := 19) (ls' := [some (.ref 0)]) (st' := [.int (-1)]) (M' := M) rfl ⟨trivial, trivial⟩ ?_
    exact g_ireturn (by decide +kernel) rfl rfl ⟨rfl, rfl⟩
  · have nc1 : w ≠ 0 := by
      have z : ¬ nI w = nI 0 := by simpa only [hw, hn, nI_add, pk_mul, nI_s1, n0_lit] using c1
      rw [nI_eq (by omega) (by omega)] at z
      omega
    refine blk 6 [(.aload_n 0, 0, 0, 0), (.getfield 67, 6, 7, 0), (.iconst 5, 0, 0, (nI 5))] [] (by decide +kernel) rfl (pc' := 15) (ls' := [some (.ref 0)]) (st' := [.int (nI 5), .int (M 0 7)]) (M' := M) rfl ⟨trivial, rfl, trivial, trivial⟩ ?_
    refine g_icmp_lt (off := 5) (tgt := 20) (by decide +kernel) (by decide) (fun c2 => ?_) (fun c2 => ?_)
    · have nc2 : n < 5 := (nI_ltI (by omega) (by omega)).mp (by simpa only [hw, hn, nI_add, pk_mul, nI_s1, n0_lit] using c2)
      exfalso
      omega
    · have nc2 : 5 ≤ n := by
        have z : ¬ nI n < nI 5 := by simpa only [hw, hn, nI_add, pk_mul, nI_s1, n0_lit] using c2
        rw [nI_ltI (by omega) (by omega)] at z
        omega
      refine blk 6 [(.iconst (-1), 0, 0, (-1))] [] (by decide +kernel) rfl (pc' := 19) (ls' := [some (.ref 0)]) (st' := [.int (-1)]) (M' := M) rfl ⟨trivial, trivial⟩ ?_
      exact g_ireturn (by decide +kernel) rfl rfl ⟨rfl, rfl⟩
def colF (M : Mem) (B : Nat) : Int32 := if M 0 11 = 0 then nI 0 else M B 1
theorem s_cols35 (M : Mem) (hL : (M 0 5).toNatClampNeg = 35) : Spec mX6_columns [.ref 0] M (Ret (colF M 51) M) := by
  refine Spec.of (by decide) (by simp [Value.category]) (Nat.le_of_ble_eq_true rfl) ?_
  refine blk 6 [(.aload_n 0, 0, 0, 0), (.getfield 74, 6, 11, 0)] [] (by decide +kernel) rfl (pc' := 4) (ls' := [some (.ref 0)]) (st' := [.int (M 0 11)]) (M' := M) rfl ⟨trivial, rfl, trivial⟩ ?_
  refine g_if_eq (off := 18) (tgt := 22) (by decide +kernel) (by decide) (fun c1 => ?_) (fun c1 => ?_)
  · refine blk 6 [(.iconst 0, 0, 0, (nI 0))] [] (by decide +kernel) rfl (pc' := 23) (ls' := [some (.ref 0)]) (st' := [.int (nI 0)]) (M' := M) rfl ⟨trivial, trivial⟩ ?_
    exact g_ireturn (by decide +kernel) rfl rfl ⟨by unfold colF; simp [*], rfl⟩
  · refine blk 6 [(.aload_n 0, 0, 0, 0), (.getfield 48, 6, 5, 0)] [] (by decide +kernel) rfl (pc' := 11) (ls' := [some (.ref 0)]) (st' := [.ref ((M 0 5).toNatClampNeg)]) (M' := M) rfl ⟨trivial, rfl, trivial⟩ ?_
    rw [show (M 0 5).toNatClampNeg = 35 from hL]
    refine blk 6 [(.getfield 120, 3, 0, 0), (.iconst 0, 0, 0, (nI 0)), (.aaload, 0, 0, 0), (.getfield 59, 2, 1, 0), (.goto (4), 23, 0, 0)] [0] (by decide +kernel) rfl (pc' := 23) (ls' := [some (.ref 0)]) (st' := [.int (M 51 1)]) (M' := M) rfl ⟨rfl, trivial, ⟨rfl, (by decide)⟩, rfl, trivial, trivial⟩ ?_
    exact g_ireturn (by decide +kernel) rfl rfl ⟨by unfold colF; simp [*], rfl⟩
theorem s_cols37 (M : Mem) (hL : (M 0 5).toNatClampNeg = 37) : Spec mX6_columns [.ref 0] M (Ret (colF M 61) M) := by
  refine Spec.of (by decide) (by simp [Value.category]) (Nat.le_of_ble_eq_true rfl) ?_
  refine blk 6 [(.aload_n 0, 0, 0, 0), (.getfield 74, 6, 11, 0)] [] (by decide +kernel) rfl (pc' := 4) (ls' := [some (.ref 0)]) (st' := [.int (M 0 11)]) (M' := M) rfl ⟨trivial, rfl, trivial⟩ ?_
  refine g_if_eq (off := 18) (tgt := 22) (by decide +kernel) (by decide) (fun c1 => ?_) (fun c1 => ?_)
  · refine blk 6 [(.iconst 0, 0, 0, (nI 0))] [] (by decide +kernel) rfl (pc' := 23) (ls' := [some (.ref 0)]) (st' := [.int (nI 0)]) (M' := M) rfl ⟨trivial, trivial⟩ ?_
    exact g_ireturn (by decide +kernel) rfl rfl ⟨by unfold colF; simp [*], rfl⟩
  · refine blk 6 [(.aload_n 0, 0, 0, 0), (.getfield 48, 6, 5, 0)] [] (by decide +kernel) rfl (pc' := 11) (ls' := [some (.ref 0)]) (st' := [.ref ((M 0 5).toNatClampNeg)]) (M' := M) rfl ⟨trivial, rfl, trivial⟩ ?_
    rw [show (M 0 5).toNatClampNeg = 37 from hL]
    refine blk 6 [(.getfield 120, 3, 0, 0), (.iconst 0, 0, 0, (nI 0)), (.aaload, 0, 0, 0), (.getfield 59, 2, 1, 0), (.goto (4), 23, 0, 0)] [0] (by decide +kernel) rfl (pc' := 23) (ls' := [some (.ref 0)]) (st' := [.int (M 61 1)]) (M' := M) rfl ⟨rfl, trivial, ⟨rfl, (by decide)⟩, rfl, trivial, trivial⟩ ?_
    exact g_ireturn (by decide +kernel) rfl rfl ⟨by unfold colF; simp [*], rfl⟩
def innB (L W Nn i : Int32) : Bool := decide (¬ L = 0 ∧ ¬ i < W ∧ ¬ Nn ≤ i)
theorem s_isInner (M : Mem) (i : Int32) : Spec mX6_isInnerNode [.ref 0, .int i] M (Ret (bI (innB (M 0 11) (M 0 7) (M 16 10) i)) M) := by
  refine Spec.of (by decide) (by simp [Value.category]) (Nat.le_of_ble_eq_true rfl) ?_
  refine blk 6 [(.aload_n 0, 0, 0, 0), (.getfield 74, 6, 11, 0)] [] (by decide +kernel) rfl (pc' := 4) (ls' := [some (.ref 0), some (.int i)]) (st' := [.int (M 0 11)]) (M' := M) rfl ⟨trivial, rfl, trivial⟩ ?_
  refine g_if_eq (off := 26) (tgt := 30) (by decide +kernel) (by decide) (fun c1 => ?_) (fun c1 => ?_)
  · refine blk 6 [(.iconst 0, 0, 0, (nI 0))] [] (by decide +kernel) rfl (pc' := 31) (ls' := [some (.ref 0), some (.int i)]) (st' := [.int (nI 0)]) (M' := M) rfl ⟨trivial, trivial⟩ ?_
    refine g_ireturn (by decide +kernel) rfl (by decide +kernel) ⟨?_, rfl⟩
    rw [show innB (M 0 11) (M 0 7) (M 16 10) i = false from decide_eq_false (fun z => by first | exact z.1 c1 | exact z.2.1 c2 | exact z.2.2 c3)]; rfl
  · refine blk 6 [(.iload_n 1, 0, 0, 0), (.aload_n 0, 0, 0, 0), (.getfield 67, 6, 7, 0)] [] (by decide +kernel) rfl (pc' := 12) (ls' := [some (.ref 0), some (.int i)]) (st' := [.int (M 0 7), .int i]) (M' := M) rfl ⟨trivial, trivial, rfl, trivial⟩ ?_
    refine g_icmp_lt (off := 18) (tgt := 30) (by decide +kernel) (by decide) (fun c2 => ?_) (fun c2 => ?_)
    · refine blk 6 [(.iconst 0, 0, 0, (nI 0))] [] (by decide +kernel) rfl (pc' := 31) (ls' := [some (.ref 0), some (.int i)]) (st' := [.int (nI 0)]) (M' := M) rfl ⟨trivial, trivial⟩ ?_
      refine g_ireturn (by decide +kernel) rfl (by decide +kernel) ⟨?_, rfl⟩
      rw [show innB (M 0 11) (M 0 7) (M 16 10) i = false from decide_eq_false (fun z => by first | exact z.1 c1 | exact z.2.1 c2 | exact z.2.2 c3)]; rfl
    · refine blk 6 [(.iload_n 1, 0, 0, 0), (.aload_n 0, 0, 0, 0), (.getfield 41, 6, 4, 0), (.getfield 188, 5, 10, 0)] [] (by decide +kernel) rfl (pc' := 23) (ls' := [some (.ref 0), some (.int i)]) (st' := [.int (M 16 10), .int i]) (M' := M) rfl ⟨trivial, trivial, rfl, rfl, trivial⟩ ?_
      refine g_icmp_ge (off := 7) (tgt := 30) (by decide +kernel) (by decide) (fun c3 => ?_) (fun c3 => ?_)
      · refine blk 6 [(.iconst 0, 0, 0, (nI 0))] [] (by decide +kernel) rfl (pc' := 31) (ls' := [some (.ref 0), some (.int i)]) (st' := [.int (nI 0)]) (M' := M) rfl ⟨trivial, trivial⟩ ?_
        refine g_ireturn (by decide +kernel) rfl (by decide +kernel) ⟨?_, rfl⟩
        rw [show innB (M 0 11) (M 0 7) (M 16 10) i = false from decide_eq_false (fun z => by first | exact z.1 c1 | exact z.2.1 c2 | exact z.2.2 c3)]; rfl
      · refine blk 6 [(.iconst 1, 0, 0, (nI 1)), (.goto (4), 31, 0, 0)] [] (by decide +kernel) rfl (pc' := 31) (ls' := [some (.ref 0), some (.int i)]) (st' := [.int (nI 1)]) (M' := M) rfl ⟨trivial, trivial, trivial⟩ ?_
        refine g_ireturn (by decide +kernel) rfl (by decide +kernel) ⟨?_, rfl⟩
        rw [show innB (M 0 11) (M 0 7) (M 16 10) i = true from decide_eq_true ⟨c1, c2, c3⟩]; rfl
theorem s_worth1 (M : Mem) {i : Nat} (hi : i < 9) (hin : innB (M 0 11) (M 0 7) (M 16 10) (nI i) = true) : Spec mX6_worth [.ref 0, .int (nI i)] M (Ret (M 19 i) M) := by
  refine Spec.of (by decide) (by simp [Value.category]) (Nat.le_of_ble_eq_true rfl) ?_
  refine blk 6 [(.aload_n 0, 0, 0, 0), (.iload_n 1, 0, 0, 0)] [] (by decide +kernel) rfl (pc' := 2) (ls' := [some (.ref 0), some (.int (nI i))]) (st' := [.int (nI i), .ref 0]) (M' := M) rfl ⟨trivial, trivial, trivial⟩ ?_
  refine g_callV (s_isInner _ (nI i)) ok_X6_worth_X6_isInnerNode (by decide +kernel) rfl (c := 6) rfl (by decide) rfl (Nat.le_of_ble_eq_true rfl) (fun r M' h => ?_) rfl
  obtain ⟨hr, hM⟩ := h
  rw [hr, hM]
  show G _ 5 [some (.ref 0), some (.int (nI i))] [.int (bI (innB (M 0 11) (M 0 7) (M 16 10) (nI i)))] M _
  refine g_if_eq (off := 15) (tgt := 20) (by decide +kernel) (by decide) (fun c1 => ?_) (fun c1 => ?_)
  · refine blk 6 [(.iconst 0, 0, 0, (nI 0))] [] (by decide +kernel) rfl (pc' := 21) (ls' := [some (.ref 0), some (.int (nI i))]) (st' := [.int (nI 0)]) (M' := M) rfl ⟨trivial, trivial⟩ ?_
    exact absurd (bI_eq c1) (by rw [hin]; decide)
  · refine blk 6 [(.aload_n 0, 0, 0, 0), (.getfield 41, 6, 4, 0), (.getfield 175, 5, 2, 0), (.iload_n 1, 0, 0, 0), (.iaload, 0, 0, 0), (.goto (4), 21, 0, 0)] [i] (by decide +kernel) rfl (pc' := 21) (ls' := [some (.ref 0), some (.int (nI i))]) (st' := [.int (M 19 i)]) (M' := M) rfl ⟨trivial, rfl, rfl, trivial, ⟨rfl, (by show _ < 9; omega)⟩, trivial, trivial⟩ ?_
    exact g_ireturn (by decide +kernel) rfl rfl ⟨rfl, rfl⟩
theorem s_worth0 (M : Mem) {i : Int32} (hin : innB (M 0 11) (M 0 7) (M 16 10) i = false) : Spec mX6_worth [.ref 0, .int i] M (Ret 0 M) := by
  refine Spec.of (by decide) (by simp [Value.category]) (Nat.le_of_ble_eq_true rfl) ?_
  refine blk 6 [(.aload_n 0, 0, 0, 0), (.iload_n 1, 0, 0, 0)] [] (by decide +kernel) rfl (pc' := 2) (ls' := [some (.ref 0), some (.int i)]) (st' := [.int i, .ref 0]) (M' := M) rfl ⟨trivial, trivial, trivial⟩ ?_
  refine g_callV (s_isInner _ i) ok_X6_worth_X6_isInnerNode (by decide +kernel) rfl (c := 6) rfl (by decide) rfl (Nat.le_of_ble_eq_true rfl) (fun r M' h => ?_) rfl
  obtain ⟨hr, hM⟩ := h
  rw [hr, hM]
  show G _ 5 [some (.ref 0), some (.int i)] [.int (bI (innB (M 0 11) (M 0 7) (M 16 10) i))] M _
  refine g_if_eq (off := 15) (tgt := 20) (by decide +kernel) (by decide) (fun c1 => ?_) (fun c1 => ?_)
  · refine blk 6 [(.iconst 0, 0, 0, (nI 0))] [] (by decide +kernel) rfl (pc' := 21) (ls' := [some (.ref 0), some (.int i)]) (st' := [.int (nI 0)]) (M' := M) rfl ⟨trivial, trivial⟩ ?_
    exact g_ireturn (by decide +kernel) rfl rfl ⟨rfl, rfl⟩
  · exact absurd (bI_ne c1) (by rw [hin]; decide)
theorem s_child1 (M : Mem) {i s : Nat} (hi : i < 9) (hs : s < 2) (hin : innB (M 0 11) (M 0 7) (M 16 10) (nI i) = true) : Spec mX6_child [.ref 0, .int (nI i), .int (nI s)] M (Ret (if s = 0 then M 17 i else M 18 i) M) := by
  refine Spec.of (by decide) (by simp [Value.category]) (Nat.le_of_ble_eq_true rfl) ?_
  refine blk 6 [(.aload_n 0, 0, 0, 0), (.iload_n 1, 0, 0, 0)] [] (by decide +kernel) rfl (pc' := 2) (ls' := [some (.ref 0), some (.int (nI i)), some (.int (nI s))]) (st' := [.int (nI i), .ref 0]) (M' := M) rfl ⟨trivial, trivial, trivial⟩ ?_
  refine g_callV (s_isInner _ (nI i)) ok_X6_child_X6_isInnerNode (by decide +kernel) rfl (c := 6) rfl (by decide) rfl (Nat.le_of_ble_eq_true rfl) (fun r M' h => ?_) rfl
  obtain ⟨hr, hM⟩ := h
  rw [hr, hM]
  show G _ 5 [some (.ref 0), some (.int (nI i)), some (.int (nI s))] [.int (bI (innB (M 0 11) (M 0 7) (M 16 10) (nI i)))] M _
  refine g_if_eq (off := 12) (tgt := 17) (by decide +kernel) (by decide) (fun c1 => ?_) (fun c1 => ?_)
  · refine blk 6 [(.iconst (-1), 0, 0, (-1))] [] (by decide +kernel) rfl (pc' := 18) (ls' := [some (.ref 0), some (.int (nI i)), some (.int (nI s))]) (st' := [.int (-1)]) (M' := M) rfl ⟨trivial, trivial⟩ ?_
    exfalso
    first | omega | exact absurd (bI_eq c1) (by rw [hin]; decide)
  · refine blk 6 [(.iload_n 2, 0, 0, 0)] [] (by decide +kernel) rfl (pc' := 9) (ls' := [some (.ref 0), some (.int (nI i)), some (.int (nI s))]) (st' := [.int (nI s)]) (M' := M) rfl ⟨trivial, trivial⟩ ?_
    refine g_if_lt (off := 8) (tgt := 17) (by decide +kernel) (by decide) (fun c2 => ?_) (fun c2 => ?_)
    · have nc2 : s < 0 := (nI_ltI (by omega) (by omega)).mp (by simpa only [nI_add, pk_mul, nI_s1, n0_lit] using c2)
      refine blk 6 [(.iconst (-1), 0, 0, (-1))] [] (by decide +kernel) rfl (pc' := 18) (ls' := [some (.ref 0), some (.int (nI i)), some (.int (nI s))]) (st' := [.int (-1)]) (M' := M) rfl ⟨trivial, trivial⟩ ?_
      exfalso
      first | omega | exact absurd (bI_eq c1) (by rw [hin]; decide)
    · have nc2 : 0 ≤ s := by
        have z : ¬ nI s < nI 0 := by simpa only [nI_add, pk_mul, nI_s1, n0_lit] using c2
        rw [nI_ltI (by omega) (by omega)] at z
        omega
      refine blk 6 [(.iload_n 2, 0, 0, 0), (.iconst 1, 0, 0, (nI 1))] [] (by decide +kernel) rfl (pc' := 14) (ls' := [some (.ref 0), some (.int (nI i)), some (.int (nI s))]) (st' := [.int (nI 1), .int (nI s)]) (M' := M) rfl ⟨trivial, trivial, trivial⟩ ?_
      refine g_icmp_le (off := 5) (tgt := 19) (by decide +kernel) (by decide) (fun c3 => ?_) (fun c3 => ?_)
      · have nc3 : s ≤ 1 := (nI_leI (by omega) (by omega)).mp (by simpa only [nI_add, pk_mul, nI_s1, n0_lit] using c3)
        refine blk 6 [(.iload_n 2, 0, 0, 0)] [] (by decide +kernel) rfl (pc' := 20) (ls' := [some (.ref 0), some (.int (nI i)), some (.int (nI s))]) (st' := [.int (nI s)]) (M' := M) rfl ⟨trivial, trivial⟩ ?_
        refine g_if_ne (off := 15) (tgt := 35) (by decide +kernel) (by decide) (fun c4 => ?_) (fun c4 => ?_)
        · have nc4 : s ≠ 0 := by
            have z : ¬ nI s = nI 0 := by simpa only [nI_add, pk_mul, nI_s1, n0_lit] using c4
            rw [nI_eq (by omega) (by omega)] at z
            omega
          refine blk 6 [(.aload_n 0, 0, 0, 0), (.getfield 41, 6, 4, 0), (.getfield 172, 5, 1, 0), (.iload_n 1, 0, 0, 0), (.iaload, 0, 0, 0)] [i] (by decide +kernel) rfl (pc' := 44) (ls' := [some (.ref 0), some (.int (nI i)), some (.int (nI s))]) (st' := [.int (M 18 i)]) (M' := M) rfl ⟨trivial, rfl, rfl, trivial, ⟨rfl, (by show _ < 9; omega)⟩, trivial⟩ ?_
          exact g_ireturn (by decide +kernel) rfl rfl ⟨by simp [*], rfl⟩
        · have nc4 : s = 0 := (nI_eq (by omega) (by omega)).mp (by simpa only [nI_add, pk_mul, nI_s1, n0_lit] using c4)
          refine blk 6 [(.aload_n 0, 0, 0, 0), (.getfield 41, 6, 4, 0), (.getfield 169, 5, 0, 0), (.iload_n 1, 0, 0, 0), (.iaload, 0, 0, 0), (.goto (12), 44, 0, 0)] [i] (by decide +kernel) rfl (pc' := 44) (ls' := [some (.ref 0), some (.int (nI i)), some (.int (nI s))]) (st' := [.int (M 17 i)]) (M' := M) rfl ⟨trivial, rfl, rfl, trivial, ⟨rfl, (by show _ < 9; omega)⟩, trivial, trivial⟩ ?_
          exact g_ireturn (by decide +kernel) rfl rfl ⟨by simp [*], rfl⟩
      · have nc3 : 1 < s := by
          have z : ¬ nI s ≤ nI 1 := by simpa only [nI_add, pk_mul, nI_s1, n0_lit] using c3
          rw [nI_leI (by omega) (by omega)] at z
          omega
        refine blk 6 [(.iconst (-1), 0, 0, (-1))] [] (by decide +kernel) rfl (pc' := 18) (ls' := [some (.ref 0), some (.int (nI i)), some (.int (nI s))]) (st' := [.int (-1)]) (M' := M) rfl ⟨trivial, trivial⟩ ?_
        exfalso
        first | omega | exact absurd (bI_eq c1) (by rw [hin]; decide)
theorem s_child0 (M : Mem) {i s : Int32} (hno : ¬ (innB (M 0 11) (M 0 7) (M 16 10) i = true ∧ ¬ s < 0 ∧ s ≤ nI 1)) : Spec mX6_child [.ref 0, .int i, .int s] M (Ret (-1) M) := by
  refine Spec.of (by decide) (by simp [Value.category]) (Nat.le_of_ble_eq_true rfl) ?_
  refine blk 6 [(.aload_n 0, 0, 0, 0), (.iload_n 1, 0, 0, 0)] [] (by decide +kernel) rfl (pc' := 2) (ls' := [some (.ref 0), some (.int i), some (.int s)]) (st' := [.int i, .ref 0]) (M' := M) rfl ⟨trivial, trivial, trivial⟩ ?_
  refine g_callV (s_isInner _ i) ok_X6_child_X6_isInnerNode (by decide +kernel) rfl (c := 6) rfl (by decide) rfl (Nat.le_of_ble_eq_true rfl) (fun r M' h => ?_) rfl
  obtain ⟨hr, hM⟩ := h
  rw [hr, hM]
  show G _ 5 [some (.ref 0), some (.int i), some (.int s)] [.int (bI (innB (M 0 11) (M 0 7) (M 16 10) i))] M _
  refine g_if_eq (off := 12) (tgt := 17) (by decide +kernel) (by decide) (fun c1 => ?_) (fun c1 => ?_)
  · refine blk 6 [(.iconst (-1), 0, 0, (-1))] [] (by decide +kernel) rfl (pc' := 18) (ls' := [some (.ref 0), some (.int i), some (.int s)]) (st' := [.int (-1)]) (M' := M) rfl ⟨trivial, trivial⟩ ?_
    exact g_ireturn (by decide +kernel) rfl rfl ⟨rfl, rfl⟩
  · refine blk 6 [(.iload_n 2, 0, 0, 0)] [] (by decide +kernel) rfl (pc' := 9) (ls' := [some (.ref 0), some (.int i), some (.int s)]) (st' := [.int s]) (M' := M) rfl ⟨trivial, trivial⟩ ?_
    refine g_if_lt (off := 8) (tgt := 17) (by decide +kernel) (by decide) (fun c2 => ?_) (fun c2 => ?_)
    · refine blk 6 [(.iconst (-1), 0, 0, (-1))] [] (by decide +kernel) rfl (pc' := 18) (ls' := [some (.ref 0), some (.int i), some (.int s)]) (st' := [.int (-1)]) (M' := M) rfl ⟨trivial, trivial⟩ ?_
      exact g_ireturn (by decide +kernel) rfl rfl ⟨rfl, rfl⟩
    · refine blk 6 [(.iload_n 2, 0, 0, 0), (.iconst 1, 0, 0, (nI 1))] [] (by decide +kernel) rfl (pc' := 14) (ls' := [some (.ref 0), some (.int i), some (.int s)]) (st' := [.int (nI 1), .int s]) (M' := M) rfl ⟨trivial, trivial, trivial⟩ ?_
      refine g_icmp_le (off := 5) (tgt := 19) (by decide +kernel) (by decide) (fun c3 => ?_) (fun c3 => ?_)
      · exact absurd ⟨bI_ne c1, c2, c3⟩ hno
      · refine blk 6 [(.iconst (-1), 0, 0, (-1))] [] (by decide +kernel) rfl (pc' := 18) (ls' := [some (.ref 0), some (.int i), some (.int s)]) (st' := [.int (-1)]) (M' := M) rfl ⟨trivial, trivial⟩ ?_
        exact g_ireturn (by decide +kernel) rfl rfl ⟨rfl, rfl⟩
theorem s_weight1 (M : Mem) {i : Nat} (hi : i < 5) (hl : ¬ M 0 11 = 0) (hw : wrdB (M 0 7) (nI i) = true) : Spec mX6_weight [.ref 0, .int (nI i)] M (Ret (M 24 i) M) := by
  refine Spec.of (by decide) (by simp [Value.category]) (Nat.le_of_ble_eq_true rfl) ?_
  refine blk 6 [(.aload_n 0, 0, 0, 0), (.getfield 74, 6, 11, 0)] [] (by decide +kernel) rfl (pc' := 4) (ls' := [some (.ref 0), some (.int (nI i))]) (st' := [.int (M 0 11)]) (M' := M) rfl ⟨trivial, rfl, trivial⟩ ?_
  refine g_if_eq (off := 23) (tgt := 27) (by decide +kernel) (by decide) (fun c1 => ?_) (fun c1 => ?_)
  · refine blk 6 [(.iconst 0, 0, 0, (nI 0))] [] (by decide +kernel) rfl (pc' := 28) (ls' := [some (.ref 0), some (.int (nI i))]) (st' := [.int (nI 0)]) (M' := M) rfl ⟨trivial, trivial⟩ ?_
    exfalso
    first | exact hl c1 | exact absurd (bI_eq c2) (by rw [hw]; decide)
  · refine blk 6 [(.aload_n 0, 0, 0, 0), (.iload_n 1, 0, 0, 0)] [] (by decide +kernel) rfl (pc' := 9) (ls' := [some (.ref 0), some (.int (nI i))]) (st' := [.int (nI i), .ref 0]) (M' := M) rfl ⟨trivial, trivial, trivial⟩ ?_
    refine g_callV (s_isWord _ (nI i)) ok_X6_weight_X6_isWord (by decide +kernel) rfl (c := 6) rfl (by decide) rfl (Nat.le_of_ble_eq_true rfl) (fun r M' h => ?_) rfl
    obtain ⟨hr, hM⟩ := h
    rw [hr, hM]
    show G _ 12 [some (.ref 0), some (.int (nI i))] [.int (bI (wrdB (M 0 7) (nI i)))] M _
    refine g_if_eq (off := 15) (tgt := 27) (by decide +kernel) (by decide) (fun c2 => ?_) (fun c2 => ?_)
    · refine blk 6 [(.iconst 0, 0, 0, (nI 0))] [] (by decide +kernel) rfl (pc' := 28) (ls' := [some (.ref 0), some (.int (nI i))]) (st' := [.int (nI 0)]) (M' := M) rfl ⟨trivial, trivial⟩ ?_
      exfalso
      first | exact hl c1 | exact absurd (bI_eq c2) (by rw [hw]; decide)
    · refine blk 6 [(.aload_n 0, 0, 0, 0), (.getfield 41, 6, 4, 0), (.getfield 178, 5, 7, 0), (.iload_n 1, 0, 0, 0), (.iaload, 0, 0, 0), (.goto (4), 28, 0, 0)] [i] (by decide +kernel) rfl (pc' := 28) (ls' := [some (.ref 0), some (.int (nI i))]) (st' := [.int (M 24 i)]) (M' := M) rfl ⟨trivial, rfl, rfl, trivial, ⟨rfl, (by show _ < 5; omega)⟩, trivial, trivial⟩ ?_
      exact g_ireturn (by decide +kernel) rfl rfl ⟨rfl, rfl⟩
theorem s_weight0 (M : Mem) {i : Int32} (hno : ¬ (¬ M 0 11 = 0 ∧ wrdB (M 0 7) i = true)) : Spec mX6_weight [.ref 0, .int i] M (Ret 0 M) := by
  refine Spec.of (by decide) (by simp [Value.category]) (Nat.le_of_ble_eq_true rfl) ?_
  refine blk 6 [(.aload_n 0, 0, 0, 0), (.getfield 74, 6, 11, 0)] [] (by decide +kernel) rfl (pc' := 4) (ls' := [some (.ref 0), some (.int i)]) (st' := [.int (M 0 11)]) (M' := M) rfl ⟨trivial, rfl, trivial⟩ ?_
  refine g_if_eq (off := 23) (tgt := 27) (by decide +kernel) (by decide) (fun c1 => ?_) (fun c1 => ?_)
  · refine blk 6 [(.iconst 0, 0, 0, (nI 0))] [] (by decide +kernel) rfl (pc' := 28) (ls' := [some (.ref 0), some (.int i)]) (st' := [.int (nI 0)]) (M' := M) rfl ⟨trivial, trivial⟩ ?_
    exact g_ireturn (by decide +kernel) rfl rfl ⟨rfl, rfl⟩
  · refine blk 6 [(.aload_n 0, 0, 0, 0), (.iload_n 1, 0, 0, 0)] [] (by decide +kernel) rfl (pc' := 9) (ls' := [some (.ref 0), some (.int i)]) (st' := [.int i, .ref 0]) (M' := M) rfl ⟨trivial, trivial, trivial⟩ ?_
    refine g_callV (s_isWord _ i) ok_X6_weight_X6_isWord (by decide +kernel) rfl (c := 6) rfl (by decide) rfl (Nat.le_of_ble_eq_true rfl) (fun r M' h => ?_) rfl
    obtain ⟨hr, hM⟩ := h
    rw [hr, hM]
    show G _ 12 [some (.ref 0), some (.int i)] [.int (bI (wrdB (M 0 7) i))] M _
    refine g_if_eq (off := 15) (tgt := 27) (by decide +kernel) (by decide) (fun c2 => ?_) (fun c2 => ?_)
    · refine blk 6 [(.iconst 0, 0, 0, (nI 0))] [] (by decide +kernel) rfl (pc' := 28) (ls' := [some (.ref 0), some (.int i)]) (st' := [.int (nI 0)]) (M' := M) rfl ⟨trivial, trivial⟩ ?_
      exact g_ireturn (by decide +kernel) rfl rfl ⟨rfl, rfl⟩
    · exact absurd ⟨c1, bI_ne c2⟩ hno
theorem s_total1_35 (M : Mem) {n W : Nat} (hL : (M 0 5).toNatClampNeg = 35) (hl : ¬ M 0 11 = 0) (hn : M 0 7 = nI n) (hn5 : n ≤ 5) (hw : W ≤ 60) (hW : ∀ a, a < n → M (51 + a) 1 = nI W) (hc : ∀ a b, a < n → b < W → okc (M (51 + a + 5) b)) : Spec mX6_total [.ref 0] M (Ret (psum (fun i => psum (sopF M 51 W i) (n - (i + 1))) n) M) := by
  refine Spec.of (by decide) (by simp [Value.category]) (Nat.le_of_ble_eq_true rfl) ?_
  refine blk 6 [(.aload_n 0, 0, 0, 0), (.getfield 74, 6, 11, 0)] [] (by decide +kernel) rfl (pc' := 4) (ls' := [some (.ref 0)]) (st' := [.int (M 0 11)]) (M' := M) rfl ⟨trivial, rfl, trivial⟩ ?_
  refine g_if_eq (off := 28) (tgt := 32) (by decide +kernel) (by decide) (fun c1 => ?_) (fun c1 => ?_)
  · refine blk 6 [(.iconst 0, 0, 0, (nI 0))] [] (by decide +kernel) rfl (pc' := 33) (ls' := [some (.ref 0)]) (st' := [.int (nI 0)]) (M' := M) rfl ⟨trivial, trivial⟩ ?_
    exact absurd c1 hl
  · refine blk 6 [(.aload_n 0, 0, 0, 0), (.getfield 48, 6, 5, 0)] [] (by decide +kernel) rfl (pc' := 11) (ls' := [some (.ref 0)]) (st' := [.ref ((M 0 5).toNatClampNeg)]) (M' := M) rfl ⟨trivial, rfl, trivial⟩ ?_
    rw [show (M 0 5).toNatClampNeg = 35 from hL]
    refine blk 6 [(.aload_n 0, 0, 0, 0), (.getfield 67, 6, 7, 0), (.aload_n 0, 0, 0, 0), (.getfield 25, 6, 2, 0), (.aload_n 0, 0, 0, 0), (.getfield 41, 6, 4, 0), (.getfield 178, 5, 7, 0)] [] (by decide +kernel) rfl (pc' := 26) (ls' := [some (.ref 0)]) (st' := [.ref 24, .ref 2, .int (M 0 7), .ref 35]) (M' := M) rfl ⟨trivial, rfl, trivial, rfl, trivial, rfl, rfl, trivial⟩ ?_
    rw [hn]
    refine g_callV (s_sop35 M (n := n) (W := W) hn5 hw hW hc) ok_X6_total_X3_sumOverPairs (by decide +kernel) rfl (c := 3) rfl (by decide) rfl (Nat.le_of_ble_eq_true rfl) (fun r M' h => ?_) rfl
    obtain ⟨hr, hM⟩ := h
    rw [hr, hM]
    show G _ 29 [some (.ref 0)] [.int (psum (fun i => psum (sopF M 51 W i) (n - (i + 1))) n)] M _
    refine blk 6 [(.goto (4), 33, 0, 0)] [] (by decide +kernel) rfl (pc' := 33) (ls' := [some (.ref 0)]) (st' := [.int (psum (fun i => psum (sopF M 51 W i) (n - (i + 1))) n)]) (M' := M) rfl ⟨trivial, trivial⟩ ?_
    exact g_ireturn (by decide +kernel) rfl rfl ⟨rfl, rfl⟩
theorem s_total1_37 (M : Mem) {n W : Nat} (hL : (M 0 5).toNatClampNeg = 37) (hl : ¬ M 0 11 = 0) (hn : M 0 7 = nI n) (hn5 : n ≤ 5) (hw : W ≤ 60) (hW : ∀ a, a < n → M (61 + a) 1 = nI W) (hc : ∀ a b, a < n → b < W → okc (M (61 + a + 5) b)) : Spec mX6_total [.ref 0] M (Ret (psum (fun i => psum (sopF M 61 W i) (n - (i + 1))) n) M) := by
  refine Spec.of (by decide) (by simp [Value.category]) (Nat.le_of_ble_eq_true rfl) ?_
  refine blk 6 [(.aload_n 0, 0, 0, 0), (.getfield 74, 6, 11, 0)] [] (by decide +kernel) rfl (pc' := 4) (ls' := [some (.ref 0)]) (st' := [.int (M 0 11)]) (M' := M) rfl ⟨trivial, rfl, trivial⟩ ?_
  refine g_if_eq (off := 28) (tgt := 32) (by decide +kernel) (by decide) (fun c1 => ?_) (fun c1 => ?_)
  · refine blk 6 [(.iconst 0, 0, 0, (nI 0))] [] (by decide +kernel) rfl (pc' := 33) (ls' := [some (.ref 0)]) (st' := [.int (nI 0)]) (M' := M) rfl ⟨trivial, trivial⟩ ?_
    exact absurd c1 hl
  · refine blk 6 [(.aload_n 0, 0, 0, 0), (.getfield 48, 6, 5, 0)] [] (by decide +kernel) rfl (pc' := 11) (ls' := [some (.ref 0)]) (st' := [.ref ((M 0 5).toNatClampNeg)]) (M' := M) rfl ⟨trivial, rfl, trivial⟩ ?_
    rw [show (M 0 5).toNatClampNeg = 37 from hL]
    refine blk 6 [(.aload_n 0, 0, 0, 0), (.getfield 67, 6, 7, 0), (.aload_n 0, 0, 0, 0), (.getfield 25, 6, 2, 0), (.aload_n 0, 0, 0, 0), (.getfield 41, 6, 4, 0), (.getfield 178, 5, 7, 0)] [] (by decide +kernel) rfl (pc' := 26) (ls' := [some (.ref 0)]) (st' := [.ref 24, .ref 2, .int (M 0 7), .ref 37]) (M' := M) rfl ⟨trivial, rfl, trivial, rfl, trivial, rfl, rfl, trivial⟩ ?_
    rw [hn]
    refine g_callV (s_sop37 M (n := n) (W := W) hn5 hw hW hc) ok_X6_total_X3_sumOverPairs (by decide +kernel) rfl (c := 3) rfl (by decide) rfl (Nat.le_of_ble_eq_true rfl) (fun r M' h => ?_) rfl
    obtain ⟨hr, hM⟩ := h
    rw [hr, hM]
    show G _ 29 [some (.ref 0)] [.int (psum (fun i => psum (sopF M 61 W i) (n - (i + 1))) n)] M _
    refine blk 6 [(.goto (4), 33, 0, 0)] [] (by decide +kernel) rfl (pc' := 33) (ls' := [some (.ref 0)]) (st' := [.int (psum (fun i => psum (sopF M 61 W i) (n - (i + 1))) n)]) (M' := M) rfl ⟨trivial, trivial⟩ ?_
    exact g_ireturn (by decide +kernel) rfl rfl ⟨rfl, rfl⟩
theorem s_total0 (M : Mem) (hl : M 0 11 = 0) : Spec mX6_total [.ref 0] M (Ret 0 M) := by
  refine Spec.of (by decide) (by simp [Value.category]) (Nat.le_of_ble_eq_true rfl) ?_
  refine blk 6 [(.aload_n 0, 0, 0, 0), (.getfield 74, 6, 11, 0)] [] (by decide +kernel) rfl (pc' := 4) (ls' := [some (.ref 0)]) (st' := [.int (M 0 11)]) (M' := M) rfl ⟨trivial, rfl, trivial⟩ ?_
  refine g_if_eq (off := 28) (tgt := 32) (by decide +kernel) (by decide) (fun c1 => ?_) (fun c1 => ?_)
  · refine blk 6 [(.iconst 0, 0, 0, (nI 0))] [] (by decide +kernel) rfl (pc' := 33) (ls' := [some (.ref 0)]) (st' := [.int (nI 0)]) (M' := M) rfl ⟨trivial, trivial⟩ ?_
    exact g_ireturn (by decide +kernel) rfl rfl ⟨rfl, rfl⟩
  · exact absurd hl c1
end
section
/-! weights from 0 to 11, scores and prices within 20: the data of a merge are small -/
theorem ti_mul {a b : Int32} (h1 : -2147483648 ≤ a.toInt * b.toInt) (h2 : a.toInt * b.toInt ≤ 2147483647) : (a * b).toInt = a.toInt * b.toInt := by
  rw [Int32.toInt_mul]
  exact Int.bmod_eq_of_le (by omega) (by omega)
theorem mul_bd {x y X Y : Int} (h1 : 0 ≤ x) (h2 : x ≤ X) (h3 : -Y ≤ y) (h4 : y ≤ Y) : -(X * Y) ≤ x * y ∧ x * y ≤ X * Y := by
  have hY : 0 ≤ Y := by omega
  have hX : 0 ≤ X := by omega
  have a1 : x * y ≤ x * Y := Int.mul_le_mul_of_nonneg_left h4 h1
  have a2 : x * Y ≤ X * Y := Int.mul_le_mul_of_nonneg_right h2 hY
  have a3 : x * (-Y) ≤ x * y := Int.mul_le_mul_of_nonneg_left h3 h1
  rw [Int.mul_neg] at a3
  omega
/-- within 0 .. K -/
def ps (K : Int) (x : Int32) : Prop := 0 ≤ x.toInt ∧ x.toInt ≤ K
theorem ps_mul {a b : Int32} {X Y : Int} (ha : ps X a) (hb : ps Y b) (h : X * Y ≤ 1000000000) : ps (X * Y) (a * b) := by
  obtain ⟨a1, a2⟩ := ha
  obtain ⟨b1, b2⟩ := hb
  have hm := mul_bd a1 a2 (by omega : -Y ≤ b.toInt) b2
  have h0 := Int.mul_nonneg a1 b1
  unfold ps
  rw [ti_mul (by omega) (by omega)]
  exact ⟨h0, hm.2⟩
theorem sm_mul {a b : Int32} {X Y : Int} (ha : ps X a) (hb : sm Y b) (h : X * Y ≤ 1000000000) : sm (X * Y) (a * b) := by
  obtain ⟨a1, a2⟩ := ha
  obtain ⟨b1, b2⟩ := hb
  have hm := mul_bd a1 a2 b1 b2
  unfold sm
  rw [ti_mul (by omega) (by omega)]
  exact hm
theorem ps_sm {K : Int} {x : Int32} (h : ps K x) : sm K x := by unfold ps at h; unfold sm; omega
theorem psum_ps {f : Nat → Int32} {K : Int} {n : Nat} (hK : 0 ≤ K ∧ K ≤ 10000000) (hn : n ≤ 60) (h : ∀ j, j < n → ps K (f j)) : ps (n * K) (psum f n) := by
  induction n with
  | zero =>
    unfold ps psum
    have : (0 : Int32).toInt = 0 := by decide
    omega
  | succ n ih =>
    have i1 := ih (by omega) (fun j hj => h j (by omega))
    have i2 := h n (by omega)
    have hb : (n : Int) * K ≤ 60 * 10000000 := by
      have := mul_bd (x := n) (X := 60) (y := K) (Y := 10000000) (by omega) (by omega) (by omega) (by omega)
      omega
    unfold ps at *
    rw [psum, ti_add (by omega) (by omega) (by omega) (by omega)]
    have e : ((n + 1 : Nat) : Int) * K = n * K + K := by rw [Int.natCast_add, Int.add_mul]; simp
    omega
theorem psum_sm {f : Nat → Int32} {K : Int} {n : Nat} (hK : 0 ≤ K ∧ K ≤ 10000000) (hn : n ≤ 60) (h : ∀ j, j < n → sm K (f j)) : sm (n * K) (psum f n) := by
  induction n with
  | zero =>
    unfold sm psum
    have : (0 : Int32).toInt = 0 := by decide
    omega
  | succ n ih =>
    have i1 := ih (by omega) (fun j hj => h j (by omega))
    have i2 := h n (by omega)
    have hb : (n : Int) * K ≤ 60 * 10000000 := by
      have := mul_bd (x := n) (X := 60) (y := K) (Y := 10000000) (by omega) (by omega) (by omega) (by omega)
      omega
    unfold sm at *
    rw [psum, ti_add (by omega) (by omega) (by omega) (by omega)]
    have e : ((n + 1 : Nat) : Int) * K = n * K + K := by rw [Int.natCast_add, Int.add_mul]; simp
    omega
/-- weights, scores and prices are as the document bounds them -/
def dataOK (M : Mem) (v : Nat) : Prop := (∀ i, i < 5 → ps 11 (M v i)) ∧ (∀ k, k < 16 → sm 20 (M 3 k)) ∧ ps 20 (M 2 1) ∧ ps 20 (M 2 2)
theorem ps_0 {K : Int} (h : 0 ≤ K) : ps K 0 := by
  unfold ps
  have : (0 : Int32).toInt = 0 := by decide
  omega
theorem uR_bnd {M R : Mem} {B : Nat} {P Q : Int32} {v p q : Nat} (hd : dataOK M v) (h : uR M R B P Q v p q) : bnd R p q := by
  obtain ⟨d1, d2, d3, d4⟩ := hd
  obtain ⟨r1, r2, -, -, r5, r6, r7, r8, r9, rz⟩ := h
  have c5 : ((5 : Nat) : Int) * 11 = 55 := by decide
  have wP : ps 55 (R 5 2) := by
    rw [r1, ← c5]
    exact psum_ps (by omega) (by omega) (fun j hj => by unfold whF; split; exact ps_0 (by omega); exact d1 j hj)
  have wQ : ps 55 (R 8 2) := by
    rw [r2, ← c5]
    exact psum_ps (by omega) (by omega) (fun j hj => by unfold whF; split; exact ps_0 (by omega); exact d1 j hj)
  have e2 : R 2 = M 2 := rz 2 (by omega)
  have e3 : R 3 = M 3 := rz 3 (by omega)
  refine ⟨fun i j hi hj => ?_, fun i hi => ?_, fun j hj => ?_, ?_⟩
  · unfold mtF
    have hin : ∀ x, x < 4 → sm (4 * 60500) (psum (mtF2 R i j x) 4) := by
      intro x hx
      have := psum_sm (f := mtF2 R i j x) (K := 60500) (n := 4) (by omega) (by omega) (fun y hy => by
        unfold mtF2
        have a1 : ps 55 (R 6 (i * 4 + x)) := by
          rw [r5 i x hi hx, ← c5]
          exact psum_ps (by omega) (by omega) (fun k hk => by unfold letF; split; exact d1 k hk; exact ps_0 (by omega))
        have a2 : ps 55 (R 9 (j * 4 + y)) := by
          rw [r7 j y hj hy, ← c5]
          exact psum_ps (by omega) (by omega) (fun k hk => by unfold letF; split; exact d1 k hk; exact ps_0 (by omega))
        have a3 := ps_mul a1 a2 (by decide)
        have a4 : sm 20 (R 3 (x * 4 + y)) := by rw [e3]; exact d2 _ (by omega)
        exact sm_mul a3 a4 (by decide))
      exact this
    have := psum_sm (f := fun x => psum (mtF2 R i j x) 4) (K := 4 * 60500) (n := 4) (by omega) (by omega) hin
    exact sm_mono this (by decide)
  · have a1 : ps 55 (R 7 i) := by
      rw [r6 i hi, ← c5]
      exact psum_ps (by omega) (by omega) (fun k hk => by unfold preF; split; exact d1 k hk; exact ps_0 (by omega))
    have a2 : ps 20 (R 2 2) := by rw [e2]; exact d4
    exact sm_mono (ps_sm (ps_mul (ps_mul a2 a1 (by decide)) wQ (by decide))) (by decide)
  · have a1 : ps 55 (R 10 j) := by
      rw [r8 j hj, ← c5]
      exact psum_ps (by omega) (by omega) (fun k hk => by unfold preF; split; exact d1 k hk; exact ps_0 (by omega))
    have a2 : ps 20 (R 2 2) := by rw [e2]; exact d4
    exact sm_mono (ps_sm (ps_mul (ps_mul a2 a1 (by decide)) wP (by decide))) (by decide)
  · rw [r9]
    have a3 := ps_mul (ps_mul d3 wP (by decide)) wQ (by decide)
    unfold ps at a3
    omega
end
section
/-! the class's table and the reference's are the same, and so are the walks -/
theorem wa_real {b L R op : Int32} {l : Nat} {B : Int} {cl cr : Prop} (hB : 0 ≤ B ∧ B ≤ 400000000) (ho : 0 ≤ op.toInt ∧ op.toInt ≤ 1000000) (hL : (cl ∧ sm B L) ∨ (¬ cl ∧ L = -1000000000)) (hR : (cr ∧ sm B R) ∨ (¬ cr ∧ R = -1000000000)) :
    ((cl → -500000000 ≤ (waV b L R op l 1).toInt) ∧ (¬ cl → (waV b L R op l 1).toInt ≤ -1000000000)) ∧ ((cr → -500000000 ≤ (waV b L R op l 2).toInt) ∧ (¬ cr → (waV b L R op l 2).toInt ≤ -1000000000)) := by
  have nv := never_ti
  have hLt : -1000000000 ≤ L.toInt ∧ L.toInt ≤ 400000000 := by
    rcases hL with ⟨_, h⟩ | ⟨_, h⟩
    · unfold sm at h; omega
    · rw [h, nv]; omega
  have hRt : -1000000000 ≤ R.toInt ∧ R.toInt ≤ 400000000 := by
    rcases hR with ⟨_, h⟩ | ⟨_, h⟩
    · unfold sm at h; omega
    · rw [h, nv]; omega
  have eL : (L - op).toInt = L.toInt - op.toInt := ti_sub (by omega) (by omega) (by omega) (by omega)
  have eR : (R - op).toInt = R.toInt - op.toInt := ti_sub (by omega) (by omega) (by omega) (by omega)
  have e1 : waV b L R op l 1 = if 1 = l then L else L - op := by unfold waV; rw [if_neg (by decide), if_pos rfl]
  have e2 : waV b L R op l 2 = if 2 = l then R else R - op := by unfold waV; rw [if_neg (by decide), if_neg (by decide)]
  rw [e1, e2]
  refine ⟨⟨fun h => ?_, fun h => ?_⟩, ⟨fun h => ?_, fun h => ?_⟩⟩
  · rcases hL with ⟨_, h1⟩ | ⟨n, _⟩
    · unfold sm at h1; split
      · omega
      · rw [eL]; omega
    · exact absurd h n
  · rcases hL with ⟨h1, _⟩ | ⟨_, h1⟩
    · exact absurd h1 h
    · have : L.toInt = -1000000000 := by rw [h1, nv]
      split
      · omega
      · rw [eL]; omega
  · rcases hR with ⟨_, h1⟩ | ⟨n, _⟩
    · unfold sm at h1; split
      · omega
      · rw [eR]; omega
    · exact absurd h n
  · rcases hR with ⟨h1, _⟩ | ⟨_, h1⟩
    · exact absurd h1 h
    · have : R.toInt = -1000000000 := by rw [h1, nv]
      split
      · omega
      · rw [eR]; omega
theorem i32_eq {a b : Int32} (h : a.toInt = b.toInt) : a = b := Int32.toInt_inj.mp h
/-- the greatest of the steps that can be taken, both ways, and the step that has it -/
theorem ch_eq {b L R op : Int32} {l : Nat} {can : Nat → Bool} {v : Nat → Int32} {cl cr : Prop} (hc0 : can 0 = true ↔ cl ∧ cr) (hc1 : can 1 = true ↔ cl) (hc2 : can 2 = true ↔ cr) (v0 : cl ∧ cr → v 0 = b) (v1 : cl → v 1 = waV b L R op l 1) (v2 : cr → v 2 = waV b L R op l 2) (hb1 : cl ∧ cr → -500000000 ≤ b.toInt) (hb2 : ¬ (cl ∧ cr) → b.toInt = -1000000000)
    (hx : (cl → -500000000 ≤ (waV b L R op l 1).toInt) ∧ (¬ cl → (waV b L R op l 1).toInt ≤ -1000000000)) (hy : (cr → -500000000 ≤ (waV b L R op l 2).toInt) ∧ (¬ cr → (waV b L R op l 2).toInt ≤ -1000000000)) (hany : cl ∨ cr) :
    (msF can v 3).2 = waV b L R op l (chV b L R op l) ∧ (if can 0 && decide (v 0 = (msF can v 3).2) then 0 else if can 1 && decide (v 1 = (msF can v 3).2) then 1 else 2) = chV b L R op l := by
  have w0 : waV b L R op l 0 = b := by unfold waV; rw [if_pos rfl]
  have n1 : ¬ nI 1 = 0 := by decide +kernel
  have n0 : nI 0 = 0 := nI_0
  have m3 : msF can v 3 = if can 2 then (nI 1, if ¬ (msF can v 2).1 = 0 ∧ ¬ (msF can v 2).2 < v 2 then (msF can v 2).2 else v 2) else msF can v 2 := rfl
  have m2 : msF can v 2 = if can 1 then (nI 1, if ¬ (msF can v 1).1 = 0 ∧ ¬ (msF can v 1).2 < v 1 then (msF can v 1).2 else v 1) else msF can v 1 := rfl
  have m1 : msF can v 1 = if can 0 then (nI 1, if ¬ (nI 0) = 0 ∧ ¬ (nI 0) < v 0 then nI 0 else v 0) else (nI 0, nI 0) := rfl
  have hch : chV b L R op l = if ¬ b < waV b L R op l 1 ∧ ¬ b < waV b L R op l 2 then 0 else if ¬ waV b L R op l 1 < waV b L R op l 2 then 1 else 2 := rfl
  generalize h1 : waV b L R op l 1 = x at *
  generalize h2 : waV b L R op l 2 = y at *
  have lxy : x < y ↔ x.toInt < y.toInt := Int32.lt_iff_toInt_lt
  have lbx : b < x ↔ b.toInt < x.toInt := Int32.lt_iff_toInt_lt
  have lby : b < y ↔ b.toInt < y.toInt := Int32.lt_iff_toInt_lt
  by_cases hcl : cl
  · by_cases hcr : cr
    · -- all three
      have c0 : can 0 = true := hc0.mpr ⟨hcl, hcr⟩
      have c1 : can 1 = true := hc1.mpr hcl
      have c2 : can 2 = true := hc2.mpr hcr
      have e0 := v0 ⟨hcl, hcr⟩
      have e1 := v1 hcl
      have e2 := v2 hcr
      rw [if_pos c0, if_neg (fun z => z.1 n0), e0] at m1
      rw [if_pos c1, m1, e1] at m2
      have m2' : msF can v 2 = (nI 1, if ¬ b < x then b else x) := by
        rw [m2]
        by_cases q : b < x
        · rw [if_neg (fun z => z.2 q), if_neg (fun z => z q)]
        · rw [if_pos ⟨n1, q⟩, if_pos q]
      rw [if_pos c2, m2', e2] at m3
      have hm : (msF can v 3).2 = if ¬ (if ¬ b < x then b else x) < y then (if ¬ b < x then b else x) else y := by
        rw [m3]
        show (if ¬ nI 1 = 0 ∧ ¬ (if ¬ b < x then b else x) < y then (if ¬ b < x then b else x) else y) = _
        by_cases q : (if ¬ b < x then b else x) < y
        · rw [if_neg (fun z => z.2 q), if_neg (fun z => z q)]
        · rw [if_pos ⟨n1, q⟩, if_pos q]
      by_cases q1 : b < x
      · by_cases q2 : x < y
        · simp [q1, q2] at hm
          have t1 := lbx.mp q1
          have t2 := lxy.mp q2
          have k1 : ¬ b = y := fun z => by rw [z] at t1; omega
          have k2 : ¬ x = y := fun z => by rw [z] at t2; omega
          rw [hm, hch, if_neg (fun z => z.1 q1), if_neg (fun z => z q2), h2, c0, c1, e0, e1]
          exact ⟨rfl, by simp [k1, k2]⟩
        · simp [q1, q2] at hm
          have t1 := lbx.mp q1
          have k1 : ¬ b = x := fun z => by rw [z] at t1; omega
          rw [hm, hch, if_neg (fun z => z.1 q1), if_pos q2, h1, c0, c1, e0, e1]
          exact ⟨rfl, by simp [k1]⟩
      · by_cases q2 : b < y
        · simp [q1, q2] at hm
          have t1 : ¬ b.toInt < x.toInt := fun z => q1 (lbx.mpr z)
          have t2 := lby.mp q2
          have q3 : x < y := lxy.mpr (by omega)
          have t3 := lxy.mp q3
          have k1 : ¬ b = y := fun z => by rw [z] at t2; omega
          have k2 : ¬ x = y := fun z => by rw [z] at t3; omega
          rw [hm, hch, if_neg (fun z => z.2 q2), if_neg (fun z => z q3), h2, c0, c1, e0, e1]
          exact ⟨rfl, by simp [k1, k2]⟩
        · simp [q1, q2] at hm
          rw [hm, hch, if_pos ⟨q1, q2⟩, w0, c0, e0]
          exact ⟨rfl, by simp⟩
    · -- LEFT alone
      have c0 : ¬ can 0 = true := fun z => hcr (hc0.mp z).2
      have c1 : can 1 = true := hc1.mpr hcl
      have c2 : ¬ can 2 = true := fun z => hcr (hc2.mp z)
      have e1 := v1 hcl
      rw [if_neg c0] at m1
      rw [if_pos c1, m1, if_neg (fun z => z.1 n0), e1] at m2
      rw [if_neg c2, m2] at m3
      have hm : (msF can v 3).2 = x := by rw [m3]
      have hb := hb2 (fun z => hcr z.2)
      have hx1 := hx.1 hcl
      have hy1 := hy.2 hcr
      have c0' : can 0 = false := by cases h : can 0; rfl; exact absurd h c0
      rw [hm, hch, if_neg (fun z => z.1 (lbx.mpr (by omega))), if_pos (fun z => absurd (lxy.mp z) (by omega)), h1, c0', c1, e1]
      exact ⟨rfl, by simp⟩
  · -- RIGHT alone
    have hcr : cr := hany.resolve_left hcl
    have c0 : ¬ can 0 = true := fun z => hcl (hc0.mp z).1
    have c1 : ¬ can 1 = true := fun z => hcl (hc1.mp z)
    have c2 : can 2 = true := hc2.mpr hcr
    have e2 := v2 hcr
    rw [if_neg c0] at m1
    rw [if_neg c1, m1] at m2
    rw [if_pos c2, m2, if_neg (fun z => z.1 n0), e2] at m3
    have hm : (msF can v 3).2 = y := by rw [m3]
    have hb := hb2 (fun z => hcl z.1)
    have hx1 := hx.2 hcl
    have hy1 := hy.1 hcr
    have c0' : can 0 = false := by cases h : can 0; rfl; exact absurd h c0
    have c1' : can 1 = false := by cases h : can 1; rfl; exact absurd h c1
    rw [hm, hch, if_neg (fun z => z.2 (lby.mpr (by omega))), if_neg (fun z => z (lxy.mpr (by omega))), h2, c0', c1']
    exact ⟨rfl, by simp⟩
end
section
/-! the two tables hold the same worths; the two walks take the same steps -/
theorem sub3 (a b c : Int32) : a - b - c = a - c - b := by
  rw [Int32.sub_eq_add_neg, Int32.sub_eq_add_neg, Int32.sub_eq_add_neg, Int32.sub_eq_add_neg, Int32.add_assoc, Int32.add_assoc, Int32.add_comm (-b)]
theorem sub0 (a : Int32) : a - nI 0 = a := by rw [nI_0]; exact Int32.sub_zero a
/-- the two sides have the same data -/
def sameD (T U : Mem) (p q : Nat) (pA qA : Int32) : Prop := (∀ i j, i < p → j < q → mtF T i j = U 93 (60 * i + j)) ∧ (∀ i, i < p → T 2 2 * T 7 i * T 8 2 = U 72 7 * U 94 i * qA) ∧ (∀ j, j < q → T 2 2 * T 10 j * T 5 2 = U 72 7 * U 95 j * pA) ∧ T 4 6 = U 72 6 * pA * qA
theorem sw_is {T U : Mem} {p q i j l : Nat} {pA qA : Int32} (hs : sameD T U p q pA qA) (ht : ∀ a b c, a ≤ p → b ≤ q → c < 3 → i + j < a + b → T (12 + c) (a * (q + 1) + b) = U 40 (3 * (61 * a + b) + c)) :
    (i < p ∧ j < q → swF U i j l 0 pA qA = lkB T p q i j) ∧ (i < p → j ≤ q → swF U i j l 1 pA qA = waV (lkB T p q i j) (lkL T p q i j) (lkR T p q i j) (T 4 6) l 1) ∧ (j < q → i ≤ p → swF U i j l 2 pA qA = waV (lkB T p q i j) (lkL T p q i j) (lkR T p q i j) (T 4 6) l 2) := by
  obtain ⟨s1, s2, s3, s4⟩ := hs
  refine ⟨fun h => ?_, fun h hj => ?_, fun h hi => ?_⟩
  · unfold swF lkB
    rw [if_pos rfl, if_pos h, ← s1 i j h.1 h.2, ← ht (i + 1) (j + 1) 0 (by omega) (by omega) (by omega) (by omega), Int32.add_comm]
  · have eS : swF U i j l 1 pA qA = U 40 (3 * (61 * (i + 1) + j) + 1) - (if 1 = l then nI 0 else U 72 6 * pA * qA) - U 72 7 * U 94 i * qA := by unfold swF; rw [if_neg (by decide), if_pos rfl]
    have eW : ∀ b L R op : Int32, waV b L R op l 1 = if 1 = l then L else L - op := fun b L R op => by unfold waV; rw [if_neg (by decide), if_pos rfl]
    have eL : lkL T p q i j = T 13 ((i + 1) * (q + 1) + j) - T 2 2 * T 7 i * T 8 2 := if_pos h
    have eT := ht (i + 1) j 1 (by omega) hj (by omega) (by omega)
    rw [show 12 + 1 = 13 from rfl] at eT
    rw [eS, eW, eL, ← eT, ← s2 i h, ← s4]
    by_cases e : 1 = l
    · rw [if_pos e, if_pos e, sub0]
    · rw [if_neg e, if_neg e, sub3]
  · have eS : swF U i j l 2 pA qA = U 40 (3 * (61 * i + (j + 1)) + 2) - (if 2 = l then nI 0 else U 72 6 * pA * qA) - U 72 7 * U 95 j * pA := by unfold swF; rw [if_neg (by decide), if_neg (by decide)]
    have eW : ∀ b L R op : Int32, waV b L R op l 2 = if 2 = l then R else R - op := fun b L R op => by unfold waV; rw [if_neg (by decide), if_neg (by decide)]
    have eR : lkR T p q i j = T 14 (i * (q + 1) + (j + 1)) - T 2 2 * T 10 j * T 5 2 := if_pos h
    have eT := ht i (j + 1) 2 hi (by omega) (by omega) (by omega)
    rw [show 12 + 2 = 14 from rfl] at eT
    rw [eS, eW, eR, ← eT, ← s3 j h, ← s4]
    by_cases e : 2 = l
    · rw [if_pos e, if_pos e, sub0]
    · rw [if_neg e, if_neg e, sub3]
theorem canB_iff {p q i j : Nat} : (canB p q i j 0 = true ↔ i < p ∧ j < q) ∧ (canB p q i j 1 = true ↔ i < p) ∧ (canB p q i j 2 = true ↔ j < q) := by
  unfold canB
  refine ⟨?_, ?_, ?_⟩
  · rw [if_pos rfl, decide_eq_true_eq]
  · rw [if_neg (by decide), if_pos rfl, decide_eq_true_eq]
  · rw [if_neg (by decide), if_neg (by decide), decide_eq_true_eq]
theorem one_step {T U : Mem} {p q i j l : Nat} {pA qA : Int32} (hB : bnd T p q) (hp : p + q ≤ 96) (hT : tb T p q (fun _ _ => True)) (hs : sameD T U p q pA qA) (hi : i ≤ p) (hj : j ≤ q) (hl : l ≤ 2) (ha : i < p ∨ j < q) (ht : ∀ a b c, a ≤ p → b ≤ q → c < 3 → i + j < a + b → T (12 + c) (a * (q + 1) + b) = U 40 (3 * (61 * a + b) + c)) :
    mdp U p q pA qA i j l = waV (lkB T p q i j) (lkL T p q i j) (lkR T p q i j) (T 4 6) l (chM T p q i j l) ∧ (U 40 (3 * (61 * i + j) + l) = mdp U p q pA qA i j l → mch U p q pA qA i j l = chM T p q i j l) := by
  have hk := lk_sm (B := 2000000 * 96) hB hi hj (by omega) (fun a b l ha hb hl h => sm_mono (tab_sm hB hp hT _ a b l ha hb hl rfl) (by omega))
  have hw := wa_real (b := lkB T p q i j) (l := l) (B := 2000000 * 96 + 1000000) (by omega) hB.2.2.2 hk.2.1 hk.2.2
  have hv := sw_is (l := l) hs ht
  have hc := canB_iff (p := p) (q := q) (i := i) (j := j)
  have nv := never_ti
  have := ch_eq (can := canB p q i j) (v := fun s => swF U i j l s pA qA) (cl := i < p) (cr := j < q) (b := lkB T p q i j) (L := lkL T p q i j) (R := lkR T p q i j) (op := T 4 6) (l := l) hc.1 hc.2.1 hc.2.2 hv.1 (fun h => hv.2.1 h hj) (fun h => hv.2.2 h hi)
    (fun h => by rcases hk.1 with ⟨_, z⟩ | ⟨z, _⟩; unfold sm at z; omega; exact absurd h z) (fun h => by rcases hk.1 with ⟨z, _⟩ | ⟨_, z⟩; exact absurd z h; rw [z, nv]) hw.1 hw.2 ha
  refine ⟨this.1, fun e => ?_⟩
  rw [← show (if canB p q i j 0 && decide (swF U i j l 0 pA qA = mdp U p q pA qA i j l) then 0 else if canB p q i j 1 && decide (swF U i j l 1 pA qA = mdp U p q pA qA i j l) then 1 else 2) = chM T p q i j l from this.2, ← e]
  rfl
theorem tab_same {T U : Mem} {p q : Nat} {pA qA : Int32} (hB : bnd T p q) (hp : p + q ≤ 96) (hT : tb T p q (fun _ _ => True)) (hU : tbm U p q pA qA (fun _ _ => True)) (hs : sameD T U p q pA qA) : ∀ n i j l, i ≤ p → j ≤ q → l < 3 → p + q - (i + j) = n → T (12 + l) (i * (q + 1) + j) = U 40 (3 * (61 * i + j) + l) := by
  intro n
  induction n using Nat.strongRecOn with
  | ind n ih =>
    intro i j l hi hj hl hn
    rw [hT i j l hi hj hl trivial, hU i j l hi hj hl trivial, dpv]
    by_cases e : i = p ∧ j = q
    · rw [if_pos e, mdp]
      have hc := canB_iff (p := p) (q := q) (i := i) (j := j)
      have c0 : ¬ canB p q i j 0 = true := fun z => by have := hc.1.mp z; omega
      have c1 : ¬ canB p q i j 1 = true := fun z => by have := hc.2.1.mp z; omega
      have c2 : ¬ canB p q i j 2 = true := fun z => by have := hc.2.2.mp z; omega
      rw [msF, if_neg c2, msF, if_neg c1, msF, if_neg c0, msF]
      exact nI_0.symm
    · rw [if_neg e]
      exact (one_step hB hp hT hs hi hj (by omega) (by omega) (fun a b c ha hb hc h => ih (p + q - (a + b)) (by omega) a b c ha hb hc rfl)).1.symm
theorem ch_same {T U : Mem} {p q i j l : Nat} {pA qA : Int32} (hB : bnd T p q) (hp : p + q ≤ 96) (hT : tb T p q (fun _ _ => True)) (hU : tbm U p q pA qA (fun _ _ => True)) (hs : sameD T U p q pA qA) (hi : i ≤ p) (hj : j ≤ q) (hl : l ≤ 2) (ha : i < p ∨ j < q) : mch U p q pA qA i j l = chM T p q i j l :=
  (one_step hB hp hT hs hi hj hl ha (fun a b c h1 h2 h3 _ => tab_same hB hp hT hU hs _ a b c h1 h2 h3 rfl)).2 (hU i j l hi hj (by omega) trivial)
theorem walk_same {T U : Mem} {p q n : Nat} {pA qA : Int32} (hB : bnd T p q) (hp : p + q ≤ 96) (hT : tb T p q (fun _ _ => True)) (hU : tbm U p q pA qA (fun _ _ => True)) (hs : sameD T U p q pA qA) (hw : wlk T p q n) : ∀ k, k ≤ n → mst U p q pA qA k = wst T p q k := by
  intro k
  induction k with
  | zero => intro _; rfl
  | succ k ih =>
    intro hk
    have e := ih (by omega)
    have h := hw.2.2.2 k (by omega)
    have c : mch U p q pA qA (wst T p q k).1 (wst T p q k).2.1 (wst T p q k).2.2 = chM T p q (wst T p q k).1 (wst T p q k).2.1 (wst T p q k).2.2 := ch_same hB hp hT hU hs h.1 h.2.1 (wst_le T p q k) h.2.2
    rw [mst, wst, e, c]
theorem walk_len {T U : Mem} {p q n m : Nat} {pA qA : Int32} (hB : bnd T p q) (hp : p + q ≤ 96) (hT : tb T p q (fun _ _ => True)) (hU : tbm U p q pA qA (fun _ _ => True)) (hs : sameD T U p q pA qA) (hw : wlk T p q n) (hm : mwlk U p q pA qA m) : m = n := by
  have e := walk_same hB hp hT hU hs hw
  rcases Nat.lt_or_ge m n with h | h
  · have e1 := e m (by omega)
    have h1 := hw.2.2.2 m h
    have h2 := hm.2.1
    have h3 := hm.2.2.1
    rw [e1] at h2 h3
    omega
  · rcases Nat.lt_or_ge n m with h' | h'
    · have e1 := e n (by omega)
      have h1 := hm.2.2.2 n h'
      rw [e1] at h1
      have h2 := hw.2.1
      have h3 := hw.2.2.1
      omega
    · omega
end
section
/-! sums: over letters as over rows -/
theorem psum_add (f g : Nat → Int32) (n : Nat) : psum (fun j => f j + g j) n = psum f n + psum g n := by
  induction n with
  | zero => rfl
  | succ n ih =>
    rw [psum, psum, psum, ih, Int32.add_assoc, Int32.add_assoc]
    congr 1
    rw [← Int32.add_assoc, Int32.add_comm (psum g n), Int32.add_assoc]
theorem psum_mulL (c : Int32) (f : Nat → Int32) (n : Nat) : c * psum f n = psum (fun j => c * f j) n := by
  induction n with
  | zero => exact Int32.mul_zero
  | succ n ih => rw [psum, psum, Int32.mul_add, ih]
theorem psum_mulR (c : Int32) (f : Nat → Int32) (n : Nat) : psum f n * c = psum (fun j => f j * c) n := by
  induction n with
  | zero => exact Int32.zero_mul
  | succ n ih => rw [psum, psum, Int32.add_mul, ih]
theorem psum_comm (f : Nat → Nat → Int32) (n m : Nat) : psum (fun i => psum (fun j => f i j) m) n = psum (fun j => psum (fun i => f i j) n) m := by
  induction n with
  | zero =>
    rw [psum]
    exact (psum_zero (fun j _ => rfl)).symm
  | succ n ih =>
    rw [psum, ih, ← psum_add]
    rfl
theorem psum_one {f : Nat → Int32} {n k : Nat} (hk : k < n) (h : ∀ j, j < n → j ≠ k → f j = 0) : psum f n = f k := by
  induction n with
  | zero => omega
  | succ n ih =>
    rw [psum]
    by_cases e : k = n
    · subst e
      rw [psum_zero (fun j hj => h j (by omega) (by omega)), Int32.zero_add]
    · rw [ih (by omega) (fun j hj hn => h j (by omega) hn), h n (by omega) (by omega), Int32.add_zero]
theorem mul3 (a b c : Int32) : a * b * c = c * a * b := by rw [Int32.mul_comm (a * b) c, Int32.mul_assoc]
/-- the groups of the class (memory C) and of the reference (memory D) are the same -/
def grp (C D : Mem) (B : Nat) (P Q : Int32) (v p q : Nat) : Prop := D 72 25 = P ∧ D 72 26 = Q ∧ (∀ a k, a < 5 → ¬ hb P a = 0 → k < p → D 90 (60 * a + k) = C (B + a + 5) k) ∧ (∀ a k, a < 5 → ¬ hb Q a = 0 → k < q → D 91 (60 * a + k) = C (B + a + 5) k) ∧ (∀ a, a < 5 → (¬ hb P a = 0 ∨ ¬ hb Q a = 0) → D 39 a = C v a) ∧ (∀ k, k < 16 → D 77 k = C 3 k) ∧ D 72 6 = C 2 1 ∧ D 72 7 = C 2 2
theorem mt_bt {C D R : Mem} {B : Nat} {P Q : Int32} {v p q i j : Nat} (hg : grp C D B P Q v p q) (hR : uR C R B P Q v p q) (hcP : ∀ a k, a < 5 → ¬ hb P a = 0 → k < p → okc (C (B + a + 5) k)) (hcQ : ∀ a k, a < 5 → ¬ hb Q a = 0 → k < q → okc (C (B + a + 5) k)) (hi : i < p) (hj : j < q) : mtF R i j = btF D i j := by
  obtain ⟨g1, g2, g3, g4, g5, g6, g7, g8⟩ := hg
  obtain ⟨-, -, -, -, r5, -, r7, -, -, rz⟩ := hR
  have e3 : R 3 = C 3 := rz 3 (by omega)
  have hin : ∀ x, x < 4 → ∀ y, y < 4 → mtF2 R i j x y = psum (fun a => psum (fun b => letF C B P v i x a * letF C B Q v j y b * C 3 (x * 4 + y)) 5) 5 := by
    intro x hx y hy
    unfold mtF2
    rw [r5 i x hi hx, r7 j y hj hy, e3, psum_mulR, psum_mulR]
    refine psum_congr (fun a _ => ?_)
    rw [psum_mulL, psum_mulR]
  have h1 : mtF R i j = psum (fun x => psum (fun y => psum (fun a => psum (fun b => letF C B P v i x a * letF C B Q v j y b * C 3 (x * 4 + y)) 5) 5) 4) 4 := by
    unfold mtF
    exact psum_congr (fun x hx => psum_congr (fun y hy => hin x hx y hy))
  have h2 : ∀ x, psum (fun y => psum (fun a => psum (fun b => letF C B P v i x a * letF C B Q v j y b * C 3 (x * 4 + y)) 5) 5) 4 = psum (fun a => psum (fun b => psum (fun y => letF C B P v i x a * letF C B Q v j y b * C 3 (x * 4 + y)) 4) 5) 5 := by
    intro x
    rw [psum_comm]
    refine psum_congr (fun a _ => ?_)
    rw [psum_comm]
  rw [h1, psum_congr (fun x _ => h2 x), psum_comm]
  unfold btF
  refine psum_congr (fun a ha => ?_)
  rw [psum_comm]
  refine psum_congr (fun b hb' => ?_)
  unfold baF
  rw [g1, g2]
  by_cases cP : hb P a = 0
  · rw [if_neg (fun z => z.1 cP)]
    refine psum_zero (fun x _ => psum_zero (fun y _ => ?_))
    unfold letF
    rw [if_neg (fun z => z.1 cP), Int32.zero_mul, Int32.zero_mul]
  · by_cases cQ : hb Q b = 0
    · rw [if_neg (fun z => z.2.1 cQ)]
      refine psum_zero (fun x _ => psum_zero (fun y _ => ?_))
      have : letF C B Q v j y b = 0 := by unfold letF; rw [if_neg (fun z => z.1 cQ)]
      rw [this, Int32.mul_zero, Int32.zero_mul]
    · rw [g3 a i ha cP hi, g4 b j hb' cQ hj]
      by_cases nP : C (B + a + 5) i = -1
      · rw [if_neg (fun z => z.2.2.1 nP)]
        refine psum_zero (fun x hx => psum_zero (fun y _ => ?_))
        unfold letF
        rw [if_neg (fun z => nI_nm1 (x := x) (by omega) (nP.symm.trans z.2)), Int32.zero_mul, Int32.zero_mul]
      · by_cases nQ : C (B + b + 5) j = -1
        · rw [if_neg (fun z => z.2.2.2 nQ)]
          refine psum_zero (fun x _ => psum_zero (fun y hy => ?_))
          have : letF C B Q v j y b = 0 := by unfold letF; rw [if_neg (fun z => nI_nm1 (x := y) (by omega) (nQ.symm.trans z.2))]
          rw [this, Int32.mul_zero, Int32.zero_mul]
        · rw [if_pos ⟨cP, cQ, nP, nQ⟩]
          have ex := okc_cd (hcP a i ha cP hi) nP
          have ey := okc_cd (hcQ b j hb' cQ hj) nQ
          generalize hx : cd (C (B + a + 5) i) = x at *
          generalize hy : cd (C (B + b + 5) j) = y at *
          rw [psum_one (k := x) ex.2 (fun z hz hne => psum_zero (fun y' _ => by
            unfold letF
            rw [if_neg (fun w => hne ((nI_eq (by omega) (by omega)).mp (w.2.symm.trans ex.1))), Int32.zero_mul, Int32.zero_mul]))]
          rw [psum_one (k := y) ey.2 (fun z hz hne => by
            have : letF C B Q v j z b = 0 := by unfold letF; rw [if_neg (fun w => hne ((nI_eq (by omega) (by omega)).mp (w.2.symm.trans ey.1)))]
            rw [this, Int32.mul_zero, Int32.zero_mul])]
          have l1 : letF C B P v i x a = C v a := by unfold letF; rw [if_pos ⟨cP, ex.1⟩]
          have l2 : letF C B Q v j y b = C v b := by unfold letF; rw [if_pos ⟨cQ, ey.1⟩]
          rw [l1, l2, g6 (4 * x + y) (by omega), g5 a ha (Or.inl cP), g5 b hb' (Or.inr cQ), mul3, Nat.mul_comm x 4]
theorem pA_same {C D : Mem} {B : Nat} {P Q : Int32} {v p q : Nat} (hg : grp C D B P Q v p q) : psum (whF D (D 72 25) 39) 5 = psum (whF C P v) 5 ∧ psum (whF D (D 72 26) 39) 5 = psum (whF C Q v) 5 := by
  obtain ⟨g1, g2, g3, g4, g5, g6, g7, g8⟩ := hg
  rw [g1, g2]
  refine ⟨psum_congr (fun a ha => ?_), psum_congr (fun a ha => ?_)⟩
  · unfold whF
    by_cases c : hb P a = 0
    · rw [if_pos c, if_pos c]
    · rw [if_neg c, if_neg c, g5 a ha (Or.inl c)]
  · unfold whF
    by_cases c : hb Q a = 0
    · rw [if_pos c, if_pos c]
    · rw [if_neg c, if_neg c, g5 a ha (Or.inr c)]
/-- THE DATA ARE THE SAME -/
theorem same_data {C D R T U R' : Mem} {B : Nat} {P Q : Int32} {v p q : Nat} (hg : grp C D B P Q v p q) (hR : uR C R B P Q v p q) (hT : keepT R T) (hR' : prepP D p q none R') (hU : keepM R' U) (hcP : ∀ a k, a < 5 → ¬ hb P a = 0 → k < p → okc (C (B + a + 5) k)) (hcQ : ∀ a k, a < 5 → ¬ hb Q a = 0 → k < q → okc (C (B + a + 5) k)) : sameD T U p q (psum (whF D (D 72 25) 39) 5) (psum (whF D (D 72 26) 39) 5) := by
  have hA := pA_same hg
  obtain ⟨-, d1, d2, d3, dz⟩ := hR'
  have u72 : U 72 = D 72 := (hU 72 (by decide)).trans (dz 72 (by omega))
  have t2 : T 2 = C 2 := (hT.2.2 2 (by decide) (by omega)).trans (hR.2.2.2.2.2.2.2.2.2 2 (by omega))
  refine ⟨fun i j hi hj => ?_, fun i hi => ?_, fun j hj => ?_, ?_⟩
  · rw [mtF_congr (hT.2.2 6 (by decide) (by omega)) (hT.2.2 9 (by decide) (by omega)) (hT.2.2 3 (by decide) (by omega)), hU 93 (by decide), d3 i j hi hj]
    exact mt_bt hg hR hcP hcQ hi hj
  · obtain ⟨g1, g2, g3, g4, g5, g6, g7, g8⟩ := hg
    rw [t2, hT.2.2 7 (by decide) (by omega), hT.2.2 8 (by decide) (by omega), hR.2.2.2.2.2.1 i hi, hR.2.1, u72, hU 94 (by decide), d1 i hi, g8, hA.2]
    have e : psum (preF C B P v i) 5 = psum (pmF D 25 90 i) 5 := by
      refine psum_congr (fun a ha => ?_)
      unfold preF pmF
      rw [g1]
      by_cases c : hb P a = 0
      · rw [if_neg (fun z => z.1 c), if_neg (fun z => z.1 c)]
      · rw [g3 a i ha c hi, g5 a ha (Or.inl c)]
    rw [e]
  · obtain ⟨g1, g2, g3, g4, g5, g6, g7, g8⟩ := hg
    rw [t2, hT.2.2 10 (by decide) (by omega), hT.2.2 5 (by decide) (by omega), hR.2.2.2.2.2.2.2.1 j hj, hR.1, u72, hU 95 (by decide), d2 j hj, g8, hA.1]
    have e : psum (preF C B Q v j) 5 = psum (pmF D 26 91 j) 5 := by
      refine psum_congr (fun a ha => ?_)
      unfold preF pmF
      rw [g2]
      by_cases c : hb Q a = 0
      · rw [if_neg (fun z => z.1 c), if_neg (fun z => z.1 c)]
      · rw [g4 a j ha c hj, g5 a ha (Or.inr c)]
    rw [e]
  · rw [hT.2.1, hR.2.2.2.2.2.2.2.2.1, hR.1, hR.2.1, u72, hg.2.2.2.2.2.2.1, hA.1, hA.2]
end
section
/-! A MERGE OF THE CLASS AND ONE OF THE REFERENCE over the same groups: the same worth, the same group -/
theorem wst_in {T : Mem} {p q n : Nat} (hw : wlk T p q n) {k : Nat} (hk : k ≤ n) : (wst T p q k).1 ≤ p ∧ (wst T p q k).2.1 ≤ q := by
  rcases Nat.lt_or_ge k n with h | h
  · exact ⟨(hw.2.2.2 k h).1, (hw.2.2.2 k h).2.1⟩
  · rw [show k = n by omega]
    exact ⟨by rw [hw.2.1]; exact Nat.le_refl p, by rw [hw.2.2.1]; exact Nat.le_refl q⟩
theorem st_iff {T : Mem} {p q k x : Nat} (hx : x ≤ 2) : stF T p q k = nI x ↔ (wst T p q (k + 1)).2.2 = x := by
  have h := wst_le T p q (k + 1)
  unfold stF
  exact nI_eq (by omega) (by omega)
theorem wst_i {T : Mem} {p q k : Nat} (h : ¬ (wst T p q (k + 1)).2.2 = 2) : (wst T p q (k + 1)).1 = (wst T p q k).1 + 1 := by
  show (wst T p q k).1 + (if (wst T p q (k + 1)).2.2 = 2 then 0 else 1) = _
  rw [if_neg h]
theorem wst_j {T : Mem} {p q k : Nat} (h : ¬ (wst T p q (k + 1)).2.2 = 1) : (wst T p q (k + 1)).2.1 = (wst T p q k).2.1 + 1 := by
  show (wst T p q k).2.1 + (if (wst T p q (k + 1)).2.2 = 1 then 0 else 1) = _
  rw [if_neg h]
theorem okc_m1 : okc (-1) := Or.inl rfl
theorem merged_same {C D F F' : Mem} {B : Nat} {P Q : Int32} {v p q : Nat} {r r' : Option Value} (hd : dataOK C v) (hg : grp C D B P Q v p q) (hpq : p + q ≤ 60) (hcP : ∀ a k, a < 5 → ¬ hb P a = 0 → k < p → okc (C (B + a + 5) k)) (hcQ : ∀ a k, a < 5 → ¬ hb Q a = 0 → k < q → okc (C (B + a + 5) k)) (hdis : ∀ a, a < 5 → ¬ hb P a = 0 → ¬ ¬ hb Q a = 0) (h1 : uniP C B P Q v p q r F) (h2 : mergeP D p q r' F') :
    r = r' ∧ ∃ n, n ≤ p + q ∧ p ≤ n ∧ q ≤ n ∧ F' 72 31 = nI n ∧ (∀ a, a < 5 → (¬ hb P a = 0 ∨ ¬ hb Q a = 0) → F (B + a) 1 = nI n ∧ ∀ k, k < n → F (B + a + 5) k = F' 92 (60 * a + k) ∧ okc (F (B + a + 5) k)) := by
  obtain ⟨R, T, n, u1, u2, u3, u4, u5, u6, u7, u8, u9⟩ := h1
  obtain ⟨R', U, m, m1, m2, m3, m4, m5, m6, m7, m8, m9⟩ := h2
  have hs := same_data hg u1 u2 m1 m2 hcP hcQ
  have hl : m = n := walk_len u4 (by omega) u3 m3 hs u5 m4
  subst hl
  have hw := walk_same u4 (by omega) u3 m3 hs u5
  have hn1 : p ≤ m := by
    have := u5.2.1
    rw [wst_P] at this
    have h := ncnt_le (stF T p q) (nI 2) m
    omega
  have hn2 : q ≤ m := by
    have := u5.2.2.1
    rw [wst_Q] at this
    have h := ncnt_le (stF T p q) (nI 1) m
    omega
  refine ⟨?_, m, u5.1, hn1, hn2, m6, fun a ha hPQ => ?_⟩
  · rw [u6, m5]
    have := tab_same u4 (by omega) u3 m3 hs _ 0 0 0 (Nat.zero_le _) (Nat.zero_le _) (by omega) rfl
    rw [show 12 + 0 = 12 from rfl, Nat.zero_mul] at this
    rw [show (0 : Nat) + 0 = 0 from rfl] at this
    rw [this]
  · by_cases cP : hb P a = 0
    · have cQ : ¬ hb Q a = 0 := hPQ.resolve_left (fun z => z cP)
      refine ⟨(u8 a ha cQ).1, fun k hk => ?_⟩
      have e1 := (u8 a ha cQ).2 k hk
      have e2 := m7 k a hk ha
      rw [hw k (by omega), hw (k + 1) (by omega)] at e2
      have hstep : ¬ (wst T p q (k + 1)).2.2 = 1 → (wst T p q k).2.1 < q := fun h => by
        have := wst_in u5 (show k + 1 ≤ m from hk)
        rw [wst_j h] at this
        omega
      rw [e1, e2]
      have em : mcv D (wst T p q k).1 (wst T p q k).2.1 (wst T p q (k + 1)).2.2 a = if ¬ hb Q a = 0 ∧ (wst T p q (k + 1)).2.2 ≠ 1 then D 91 (60 * a + (wst T p q k).2.1) else -1 := by
        unfold mcv
        rw [hg.1, hg.2.1, if_neg (fun z => z.1 cP)]
      rw [em]
      by_cases e : (wst T p q (k + 1)).2.2 = 1
      · rw [if_pos ((st_iff (by decide)).mpr e), if_neg (fun z => z.2 e)]
        exact ⟨rfl, okc_m1⟩
      · rw [if_neg (fun z => e ((st_iff (by decide)).mp z)), if_pos ⟨cQ, e⟩, hg.2.2.2.1 a _ ha cQ (hstep e), ← wst_Q]
        exact ⟨rfl, hcQ a _ ha cQ (hstep e)⟩
    · have cQ : hb Q a = 0 := Decidable.not_not.mp (hdis a ha cP)
      refine ⟨(u7 a ha cP).1, fun k hk => ?_⟩
      have e1 := (u7 a ha cP).2 k hk
      have e2 := m7 k a hk ha
      rw [hw k (by omega), hw (k + 1) (by omega)] at e2
      have hstep : ¬ (wst T p q (k + 1)).2.2 = 2 → (wst T p q k).1 < p := fun h => by
        have := wst_in u5 (show k + 1 ≤ m from hk)
        rw [wst_i h] at this
        omega
      rw [e1, e2]
      unfold mcv
      rw [hg.1, hg.2.1]
      by_cases e : (wst T p q (k + 1)).2.2 = 2
      · rw [if_pos ((st_iff (by decide)).mpr e), if_neg (fun z => z.2 e), if_neg (fun z => z.1 cQ)]
        exact ⟨rfl, okc_m1⟩
      · rw [if_neg (fun z => e ((st_iff (by decide)).mp z)), if_pos ⟨cP, e⟩, hg.2.2.1 a _ ha cP (hstep e), ← wst_P]
        exact ⟨rfl, hcP a _ ha cP (hstep e)⟩
end
section
/-! two words merged: mergeOnTrial, mergeWords -/
def bit (i : Nat) : Int32 := nI 1 <<< (nI i &&& 31)
theorem hb_bit {i a : Nat} (hi : i < 5) (ha : a < 5) : hb (bit i) a = if a = i then 1 else 0 := (by decide +kernel : ∀ i, i < 5 → ∀ a, a < 5 → hb (bit i) a = if a = i then 1 else 0) i hi a ha
theorem hb_bit_ne {i a : Nat} (hi : i < 5) (ha : a < 5) : ¬ hb (bit i) a = 0 ↔ a = i := by
  rw [hb_bit hi ha]
  by_cases e : a = i
  · rw [if_pos e]; exact ⟨fun _ => e, fun _ => by decide⟩
  · rw [if_neg e]; exact ⟨fun z => absurd rfl z, fun z => absurd z e⟩
/-- a word as its letters -/
def wordOK (M : Mem) (i l : Nat) : Prop := M (41 + i) 1 = nI l ∧ 1 ≤ l ∧ l ≤ 12 ∧ ∀ k, k < l → ∃ a, a < 4 ∧ M (41 + i + 5) k = nI a
def motP (M : Mem) (B i j li lj : Nat) : Option Value → Mem → Prop := fun r F => ∃ C : Mem, C (B + i) 1 = nI li ∧ (∀ k, k < li → C (B + i + 5) k = M (41 + i + 5) k) ∧ C (B + j) 1 = nI lj ∧ (∀ k, k < lj → C (B + j + 5) k = M (41 + j + 5) k) ∧ (∀ z, z ≠ B + i → z ≠ B + i + 5 → z ≠ B + j → z ≠ B + j + 5 → C z = M z) ∧ uniP C B (bit i) (bit j) 97 li lj r F
theorem eq_dataOK {C M : Mem} (h97 : ∀ a, a < 5 → C 97 a = 1) (hsc : ∀ k, k < 16 → sm 20 (C 3 k)) (ho : ps 20 (C 2 1)) (he : ps 20 (C 2 2)) : dataOK C 97 := by
  refine ⟨fun i hi => ?_, hsc, ho, he⟩
  rw [h97 i hi]
  unfold ps
  have : (1 : Int32).toInt = 1 := by decide
  omega
theorem s_mot35 (M : Mem) {i j li lj : Nat} (hT : (M 0 6).toNatClampNeg = 35) (hi : i < 5) (hj : j < 5) (hij : i ≠ j) (hi1 : wordOK M i li) (hj1 : wordOK M j lj) (h97 : ∀ a, a < 5 → M 97 a = 1) (hsc : ∀ k, k < 16 → sm 20 (M 3 k)) (hop : ps 20 (M 2 1)) (hex : ps 20 (M 2 2)) : Spec mX6_mergeOnTrial [.ref 0, .int (nI i), .int (nI j)] M (motP M 51 i j li lj) := by
  have hl1 := hi1.2.2.1
  have hl2 := hj1.2.2.1
  refine Spec.of (by decide) (by simp [Value.category]) (Nat.le_of_ble_eq_true rfl) ?_
  refine blk 6 [(.aload_n 0, 0, 0, 0), (.getfield 52, 6, 6, 0)] [] (by decide +kernel) rfl (pc' := 4) (ls' := [some (.ref 0), some (.int (nI i)), some (.int (nI j))]) (st' := [.ref ((M 0 6).toNatClampNeg)]) (M' := M) rfl ⟨trivial, rfl, trivial⟩ ?_
  rw [show (M 0 6).toNatClampNeg = 35 from hT]
  refine blk 6 [(.getfield 120, 3, 0, 0), (.iload_n 1, 0, 0, 0), (.aaload, 0, 0, 0), (.aload_n 0, 0, 0, 0), (.getfield 11, 6, 0, 0), (.iload_n 1, 0, 0, 0), (.aaload, 0, 0, 0)] [i, i] (by decide +kernel) rfl (pc' := 15) (ls' := [some (.ref 0), some (.int (nI i)), some (.int (nI j))]) (st' := [.ref (41 + i), .ref (51 + i)]) (M' := M) rfl ⟨rfl, trivial, ⟨rfl, (by show _ < 5; omega)⟩, trivial, rfl, trivial, ⟨rfl, (by show _ < 5; omega)⟩, trivial⟩ ?_
  refine g_callV (s_copy M (t := 51 + i) (u := 41 + i) (w := li) (kd51 hi) (kd41 hi) hi1.1 (by rw [al56 hi]; omega) (by rw [al46 hi]; omega) (by omega) (by omega) (kd56 hi) (kd46 hi) (by omega)) ok_X6_mergeOnTrial_X2_copy (by decide +kernel) rfl (c := 2) (kd51 hi) (by decide) rfl (Nat.le_of_ble_eq_true rfl) (fun r A h => ?_) (by rfl)
  obtain ⟨hr, A1, A2, A3⟩ := h
  rw [hr]
  have hwj : A (41 + j) 1 = nI lj := by rw [A3 _ (by omega) (by omega)]; exact hj1.1
  have hTA : (A 0 6).toNatClampNeg = 35 := by rw [A3 0 (by omega) (by omega)]; exact hT
  show G _ 18 [some (.ref 0), some (.int (nI i)), some (.int (nI j))] [] A _
  refine blk 6 [(.aload_n 0, 0, 0, 0), (.getfield 52, 6, 6, 0)] [] (by decide +kernel) rfl (pc' := 22) (ls' := [some (.ref 0), some (.int (nI i)), some (.int (nI j))]) (st' := [.ref ((A 0 6).toNatClampNeg)]) (M' := A) rfl ⟨trivial, rfl, trivial⟩ ?_
  rw [show (A 0 6).toNatClampNeg = 35 from hTA]
  refine blk 6 [(.getfield 120, 3, 0, 0), (.iload_n 2, 0, 0, 0), (.aaload, 0, 0, 0), (.aload_n 0, 0, 0, 0), (.getfield 11, 6, 0, 0), (.iload_n 2, 0, 0, 0), (.aaload, 0, 0, 0)] [j, j] (by decide +kernel) rfl (pc' := 33) (ls' := [some (.ref 0), some (.int (nI i)), some (.int (nI j))]) (st' := [.ref (41 + j), .ref (51 + j)]) (M' := A) rfl ⟨rfl, trivial, ⟨rfl, (by show _ < 5; omega)⟩, trivial, rfl, trivial, ⟨rfl, (by show _ < 5; omega)⟩, trivial⟩ ?_
  refine g_callV (s_copy A (t := 51 + j) (u := 41 + j) (w := lj) (kd51 hj) (kd41 hj) hwj (by rw [al56 hj]; omega) (by rw [al46 hj]; omega) (by omega) (by omega) (kd56 hj) (kd46 hj) (by omega)) ok_X6_mergeOnTrial_X2_copy (by decide +kernel) rfl (c := 2) (kd51 hj) (by decide) rfl (Nat.le_of_ble_eq_true rfl) (fun r C h => ?_) (by rfl)
  obtain ⟨hr, C1, C2, C3⟩ := h
  rw [hr]
  have hTC : (C 0 6).toNatClampNeg = 35 := by rw [C3 0 (by omega) (by omega)]; exact hTA
  have cz : ∀ z, z ≠ 51 + i → z ≠ 51 + i + 5 → z ≠ 51 + j → z ≠ 51 + j + 5 → C z = M z := fun z z1 z2 z3 z4 => by rw [C3 z z3 z4, A3 z z1 z2]
  have c1 : C (51 + i) 1 = nI li := by rw [C3 _ (by omega) (by omega)]; exact A1
  have c2 : ∀ k, k < li → C (51 + i + 5) k = M (41 + i + 5) k := fun k hk => by rw [C3 _ (by omega) (by omega)]; exact A2 k hk
  have c4 : ∀ k, k < lj → C (51 + j + 5) k = M (41 + j + 5) k := fun k hk => by rw [C2 k hk, A3 _ (by omega) (by omega)]
  show G _ 36 [some (.ref 0), some (.int (nI i)), some (.int (nI j))] [] C _
  refine blk 6 [(.aload_n 0, 0, 0, 0), (.getfield 34, 6, 3, 0), (.aload_n 0, 0, 0, 0), (.getfield 52, 6, 6, 0)] [] (by decide +kernel) rfl (pc' := 44) (ls' := [some (.ref 0), some (.int (nI i)), some (.int (nI j))]) (st' := [.ref ((C 0 6).toNatClampNeg), .ref 4]) (M' := C) rfl ⟨trivial, rfl, trivial, rfl, trivial⟩ ?_
  rw [show (C 0 6).toNatClampNeg = 35 from hTC]
  refine blk 6 [(.iconst 1, 0, 0, (nI 1)), (.iload_n 1, 0, 0, 0), (.ishl, 0, 0, 0), (.iconst 1, 0, 0, (nI 1)), (.iload_n 2, 0, 0, 0), (.ishl, 0, 0, 0), (.getstatic 206, 97, 0, 0)] [] (by decide +kernel) rfl (pc' := 53) (ls' := [some (.ref 0), some (.int (nI i)), some (.int (nI j))]) (st' := [.ref 97, .int ((nI 1) <<< ((nI j) &&& 31)), .int ((nI 1) <<< ((nI i) &&& 31)), .ref 35, .ref 4]) (M' := C) rfl ⟨trivial, trivial, trivial, trivial, trivial, trivial, trivial, trivial⟩ ?_
  have hd : dataOK C 97 := eq_dataOK (M := M) (fun a ha => by rw [cz 97 (by omega) (by omega) (by omega) (by omega)]; exact h97 a ha) (fun k hk => by rw [cz 3 (by omega) (by omega) (by omega) (by omega)]; exact hsc k hk) (by rw [cz 2 (by omega) (by omega) (by omega) (by omega)]; exact hop) (by rw [cz 2 (by omega) (by omega) (by omega) (by omega)]; exact hex)
  refine g_callV (s_unite35 C (P := bit i) (Q := bit j) (v := 97) (p := li) (q := lj) (by decide) (by decide) (by omega) (by omega) (by omega) (Nat.le_trans (Nat.mul_le_mul (show li + 1 ≤ 13 by omega) (show lj + 1 ≤ 13 by omega)) (by decide)) (fun a ha h => by rw [(hb_bit_ne hi ha).mp h]; exact c1) (fun a ha h => by rw [(hb_bit_ne hj ha).mp h]; exact C1) (fun a ha h1 h2 => hij (((hb_bit_ne hi ha).mp h1).symm.trans ((hb_bit_ne hj ha).mp h2))) (fun a k ha h hk => by rw [(hb_bit_ne hi ha).mp h, c2 k hk]; exact Or.inr (hi1.2.2.2 k hk)) (fun a k ha h hk => by rw [(hb_bit_ne hj ha).mp h, c4 k hk]; exact Or.inr (hj1.2.2.2 k hk)) ⟨i, hi, (hb_bit_ne hi hi).mpr rfl⟩ ⟨j, hj, (hb_bit_ne hj hj).mpr rfl⟩ (fun R hR => uR_bnd hd hR)) ok_X6_mergeOnTrial_X1_unite (by decide +kernel) rfl (c := 1) rfl (by decide) rfl (Nat.le_of_ble_eq_true rfl) (fun r F h => ?_) rfl
  have hF := h
  obtain ⟨_, T, _, _, _, _, _, _, hr, _⟩ := h
  rw [hr]
  show G _ 56 [some (.ref 0), some (.int (nI i)), some (.int (nI j))] [.int (T 12 0)] F _
  exact g_ireturn (by decide +kernel) rfl rfl ⟨C, c1, c2, C1, c4, cz, by rw [← hr]; exact hF⟩
theorem s_mot37 (M : Mem) {i j li lj : Nat} (hT : (M 0 6).toNatClampNeg = 37) (hi : i < 5) (hj : j < 5) (hij : i ≠ j) (hi1 : wordOK M i li) (hj1 : wordOK M j lj) (h97 : ∀ a, a < 5 → M 97 a = 1) (hsc : ∀ k, k < 16 → sm 20 (M 3 k)) (hop : ps 20 (M 2 1)) (hex : ps 20 (M 2 2)) : Spec mX6_mergeOnTrial [.ref 0, .int (nI i), .int (nI j)] M (motP M 61 i j li lj) := by
  have hl1 := hi1.2.2.1
  have hl2 := hj1.2.2.1
  refine Spec.of (by decide) (by simp [Value.category]) (Nat.le_of_ble_eq_true rfl) ?_
  refine blk 6 [(.aload_n 0, 0, 0, 0), (.getfield 52, 6, 6, 0)] [] (by decide +kernel) rfl (pc' := 4) (ls' := [some (.ref 0), some (.int (nI i)), some (.int (nI j))]) (st' := [.ref ((M 0 6).toNatClampNeg)]) (M' := M) rfl ⟨trivial, rfl, trivial⟩ ?_
  rw [show (M 0 6).toNatClampNeg = 37 from hT]
  refine blk 6 [(.getfield 120, 3, 0, 0), (.iload_n 1, 0, 0, 0), (.aaload, 0, 0, 0), (.aload_n 0, 0, 0, 0), (.getfield 11, 6, 0, 0), (.iload_n 1, 0, 0, 0), (.aaload, 0, 0, 0)] [i, i] (by decide +kernel) rfl (pc' := 15) (ls' := [some (.ref 0), some (.int (nI i)), some (.int (nI j))]) (st' := [.ref (41 + i), .ref (61 + i)]) (M' := M) rfl ⟨rfl, trivial, ⟨rfl, (by show _ < 5; omega)⟩, trivial, rfl, trivial, ⟨rfl, (by show _ < 5; omega)⟩, trivial⟩ ?_
  refine g_callV (s_copy M (t := 61 + i) (u := 41 + i) (w := li) (kd61 hi) (kd41 hi) hi1.1 (by rw [al66 hi]; omega) (by rw [al46 hi]; omega) (by omega) (by omega) (kd66 hi) (kd46 hi) (by omega)) ok_X6_mergeOnTrial_X2_copy (by decide +kernel) rfl (c := 2) (kd61 hi) (by decide) rfl (Nat.le_of_ble_eq_true rfl) (fun r A h => ?_) (by rfl)
  obtain ⟨hr, A1, A2, A3⟩ := h
  rw [hr]
  have hwj : A (41 + j) 1 = nI lj := by rw [A3 _ (by omega) (by omega)]; exact hj1.1
  have hTA : (A 0 6).toNatClampNeg = 37 := by rw [A3 0 (by omega) (by omega)]; exact hT
  show G _ 18 [some (.ref 0), some (.int (nI i)), some (.int (nI j))] [] A _
  refine blk 6 [(.aload_n 0, 0, 0, 0), (.getfield 52, 6, 6, 0)] [] (by decide +kernel) rfl (pc' := 22) (ls' := [some (.ref 0), some (.int (nI i)), some (.int (nI j))]) (st' := [.ref ((A 0 6).toNatClampNeg)]) (M' := A) rfl ⟨trivial, rfl, trivial⟩ ?_
  rw [show (A 0 6).toNatClampNeg = 37 from hTA]
  refine blk 6 [(.getfield 120, 3, 0, 0), (.iload_n 2, 0, 0, 0), (.aaload, 0, 0, 0), (.aload_n 0, 0, 0, 0), (.getfield 11, 6, 0, 0), (.iload_n 2, 0, 0, 0), (.aaload, 0, 0, 0)] [j, j] (by decide +kernel) rfl (pc' := 33) (ls' := [some (.ref 0), some (.int (nI i)), some (.int (nI j))]) (st' := [.ref (41 + j), .ref (61 + j)]) (M' := A) rfl ⟨rfl, trivial, ⟨rfl, (by show _ < 5; omega)⟩, trivial, rfl, trivial, ⟨rfl, (by show _ < 5; omega)⟩, trivial⟩ ?_
  refine g_callV (s_copy A (t := 61 + j) (u := 41 + j) (w := lj) (kd61 hj) (kd41 hj) hwj (by rw [al66 hj]; omega) (by rw [al46 hj]; omega) (by omega) (by omega) (kd66 hj) (kd46 hj) (by omega)) ok_X6_mergeOnTrial_X2_copy (by decide +kernel) rfl (c := 2) (kd61 hj) (by decide) rfl (Nat.le_of_ble_eq_true rfl) (fun r C h => ?_) (by rfl)
  obtain ⟨hr, C1, C2, C3⟩ := h
  rw [hr]
  have hTC : (C 0 6).toNatClampNeg = 37 := by rw [C3 0 (by omega) (by omega)]; exact hTA
  have cz : ∀ z, z ≠ 61 + i → z ≠ 61 + i + 5 → z ≠ 61 + j → z ≠ 61 + j + 5 → C z = M z := fun z z1 z2 z3 z4 => by rw [C3 z z3 z4, A3 z z1 z2]
  have c1 : C (61 + i) 1 = nI li := by rw [C3 _ (by omega) (by omega)]; exact A1
  have c2 : ∀ k, k < li → C (61 + i + 5) k = M (41 + i + 5) k := fun k hk => by rw [C3 _ (by omega) (by omega)]; exact A2 k hk
  have c4 : ∀ k, k < lj → C (61 + j + 5) k = M (41 + j + 5) k := fun k hk => by rw [C2 k hk, A3 _ (by omega) (by omega)]
  show G _ 36 [some (.ref 0), some (.int (nI i)), some (.int (nI j))] [] C _
  refine blk 6 [(.aload_n 0, 0, 0, 0), (.getfield 34, 6, 3, 0), (.aload_n 0, 0, 0, 0), (.getfield 52, 6, 6, 0)] [] (by decide +kernel) rfl (pc' := 44) (ls' := [some (.ref 0), some (.int (nI i)), some (.int (nI j))]) (st' := [.ref ((C 0 6).toNatClampNeg), .ref 4]) (M' := C) rfl ⟨trivial, rfl, trivial, rfl, trivial⟩ ?_
  rw [show (C 0 6).toNatClampNeg = 37 from hTC]
  refine blk 6 [(.iconst 1, 0, 0, (nI 1)), (.iload_n 1, 0, 0, 0), (.ishl, 0, 0, 0), (.iconst 1, 0, 0, (nI 1)), (.iload_n 2, 0, 0, 0), (.ishl, 0, 0, 0), (.getstatic 206, 97, 0, 0)] [] (by decide +kernel) rfl (pc' := 53) (ls' := [some (.ref 0), some (.int (nI i)), some (.int (nI j))]) (st' := [.ref 97, .int ((nI 1) <<< ((nI j) &&& 31)), .int ((nI 1) <<< ((nI i) &&& 31)), .ref 37, .ref 4]) (M' := C) rfl ⟨trivial, trivial, trivial, trivial, trivial, trivial, trivial, trivial⟩ ?_
  have hd : dataOK C 97 := eq_dataOK (M := M) (fun a ha => by rw [cz 97 (by omega) (by omega) (by omega) (by omega)]; exact h97 a ha) (fun k hk => by rw [cz 3 (by omega) (by omega) (by omega) (by omega)]; exact hsc k hk) (by rw [cz 2 (by omega) (by omega) (by omega) (by omega)]; exact hop) (by rw [cz 2 (by omega) (by omega) (by omega) (by omega)]; exact hex)
  refine g_callV (s_unite37 C (P := bit i) (Q := bit j) (v := 97) (p := li) (q := lj) (by decide) (by decide) (by omega) (by omega) (by omega) (Nat.le_trans (Nat.mul_le_mul (show li + 1 ≤ 13 by omega) (show lj + 1 ≤ 13 by omega)) (by decide)) (fun a ha h => by rw [(hb_bit_ne hi ha).mp h]; exact c1) (fun a ha h => by rw [(hb_bit_ne hj ha).mp h]; exact C1) (fun a ha h1 h2 => hij (((hb_bit_ne hi ha).mp h1).symm.trans ((hb_bit_ne hj ha).mp h2))) (fun a k ha h hk => by rw [(hb_bit_ne hi ha).mp h, c2 k hk]; exact Or.inr (hi1.2.2.2 k hk)) (fun a k ha h hk => by rw [(hb_bit_ne hj ha).mp h, c4 k hk]; exact Or.inr (hj1.2.2.2 k hk)) ⟨i, hi, (hb_bit_ne hi hi).mpr rfl⟩ ⟨j, hj, (hb_bit_ne hj hj).mpr rfl⟩ (fun R hR => uR_bnd hd hR)) ok_X6_mergeOnTrial_X1_unite (by decide +kernel) rfl (c := 1) rfl (by decide) rfl (Nat.le_of_ble_eq_true rfl) (fun r F h => ?_) rfl
  have hF := h
  obtain ⟨_, T, _, _, _, _, _, _, hr, _⟩ := h
  rw [hr]
  show G _ 56 [some (.ref 0), some (.int (nI i)), some (.int (nI j))] [.int (T 12 0)] F _
  exact g_ireturn (by decide +kernel) rfl rfl ⟨C, c1, c2, C1, c4, cz, by rw [← hr]; exact hF⟩
end
section
/-! two words merged by the reference; pair -/
def mwordOK (M : Mem) (i l : Nat) : Prop := M 73 i = nI l ∧ 1 ≤ l ∧ l ≤ 12 ∧ ∀ k, k < l → ∃ a, a < 4 ∧ M 74 (12 * i + k) = nI a
def mmwP (M : Mem) (i j li lj : Nat) : Option Value → Mem → Prop := fun r F => ∃ D : Mem, D 72 25 = bit i ∧ D 72 26 = bit j ∧ D 72 27 = nI li ∧ D 72 28 = nI lj ∧ (∀ k, k < li → D 90 (60 * i + k) = M 74 (12 * i + k)) ∧ (∀ k, k < lj → D 91 (60 * j + k) = M 74 (12 * j + k)) ∧ (∀ a, a < 5 → D 39 a = 1) ∧ (∀ f, (f < 25 ∨ 28 < f) → D 72 f = M 72 f) ∧ (∀ z, z ≠ 72 → z ≠ 90 → z ≠ 91 → z ≠ 39 → D z = M z) ∧ mergeP D li lj r F
theorem s_mmw (M : Mem) {i j li lj : Nat} (hi : i < 5) (hj : j < 5) (hi1 : mwordOK M i li) (hj1 : mwordOK M j lj) : Spec mX7_mergeWords [.ref 72, .int (nI i), .int (nI j)] M (mmwP M i j li lj) := by
  have hl1 := hi1.2.2.1
  have hl2 := hj1.2.2.1
  refine Spec.of (by decide) (by simp [Value.category]) (Nat.le_of_ble_eq_true rfl) ?_
  refine blk 7 [(.aload_n 0, 0, 0, 0)] [] (by decide +kernel) rfl (pc' := 1) (ls' := [some (.ref 72), some (.int (nI i)), some (.int (nI j))]) (st' := [.ref 72]) (M' := M) rfl ⟨trivial, trivial⟩ ?_
  refine g_callV (s_plain M) ok_X7_mergeWords_X7_plainFactors (by decide +kernel) rfl (c := 7) rfl (by decide) rfl (Nat.le_of_ble_eq_true rfl) (fun r A h => ?_) rfl
  obtain ⟨hr, A1, A2⟩ := h
  rw [hr]
  show G _ 4 [some (.ref 72), some (.int (nI i)), some (.int (nI j))] [] A _
  refine blk 7 [(.aload_n 0, 0, 0, 0), (.iconst 1, 0, 0, (nI 1)), (.iload_n 1, 0, 0, 0)] [] (by decide +kernel) rfl (pc' := 7) (ls' := [some (.ref 72), some (.int (nI i)), some (.int (nI j))]) (st' := [.int (nI i), .int (nI 1), .ref 72]) (M' := A) rfl ⟨trivial, trivial, trivial, trivial⟩ ?_
  refine g_callV (s_alone1 A (i := i) (n := li) hi hi1.2.2.1 (by rw [A2 73 (by decide)]; exact hi1.1)) ok_X7_mergeWords_X7_alone (by decide +kernel) rfl (c := 7) rfl (by decide) rfl (Nat.le_of_ble_eq_true rfl) (fun r B h => ?_) rfl
  obtain ⟨hr, B1, B2, B3, B4, B5⟩ := h
  rw [hr]
  show G _ 10 [some (.ref 72), some (.int (nI i)), some (.int (nI j))] [] B _
  refine blk 7 [(.aload_n 0, 0, 0, 0), (.iconst 0, 0, 0, (nI 0)), (.iload_n 2, 0, 0, 0)] [] (by decide +kernel) rfl (pc' := 13) (ls' := [some (.ref 72), some (.int (nI i)), some (.int (nI j))]) (st' := [.int (nI j), .int (nI 0), .ref 72]) (M' := B) rfl ⟨trivial, trivial, trivial, trivial⟩ ?_
  refine g_callV (s_alone0 B (i := j) (n := lj) hj hj1.2.2.1 (by rw [B5 73 (by decide) (by decide), A2 73 (by decide)]; exact hj1.1)) ok_X7_mergeWords_X7_alone (by decide +kernel) rfl (c := 7) rfl (by decide) rfl (Nat.le_of_ble_eq_true rfl) (fun r D h => ?_) rfl
  obtain ⟨hr, D1, D2, D3, D4, D5⟩ := h
  rw [hr]
  have d25 : D 72 25 = bit i := by rw [D4 25 (by decide) (by decide)]; exact B1
  have d27 : D 72 27 = nI li := by rw [D4 27 (by decide) (by decide)]; exact B2
  have d90 : ∀ k, k < li → D 90 (60 * i + k) = M 74 (12 * i + k) := fun k hk => by rw [D5 90 (by decide) (by decide), B3 k hk, A2 74 (by decide)]
  have d91 : ∀ k, k < lj → D 91 (60 * j + k) = M 74 (12 * j + k) := fun k hk => by rw [D3 k hk, B5 74 (by decide) (by decide), A2 74 (by decide)]
  have d39 : ∀ a, a < 5 → D 39 a = 1 := fun a ha => by rw [D5 39 (by decide) (by decide), B5 39 (by decide) (by decide)]; exact A1 a ha
  have d72 : ∀ f, (f < 25 ∨ 28 < f) → D 72 f = M 72 f := fun f hf => by rw [D4 f (by omega) (by omega), B4 f (by omega) (by omega), A2 72 (by decide)]
  have dz : ∀ z, z ≠ 72 → z ≠ 90 → z ≠ 91 → z ≠ 39 → D z = M z := fun z z1 z2 z3 z4 => by rw [D5 z z1 z3, B5 z z1 z2, A2 z z4]
  show G _ 16 [some (.ref 72), some (.int (nI i)), some (.int (nI j))] [] D _
  refine blk 7 [(.aload_n 0, 0, 0, 0)] [] (by decide +kernel) rfl (pc' := 17) (ls' := [some (.ref 72), some (.int (nI i)), some (.int (nI j))]) (st' := [.ref 72]) (M' := D) rfl ⟨trivial, trivial⟩ ?_
  refine g_callV (s_mmerge D (p := li) (q := lj) (by omega) (by omega) (by omega) ⟨fun v k hv hk h => ?_, fun v k hv hk h => ?_⟩ d27 D2) ok_X7_mergeWords_X7_merge (by decide +kernel) rfl (c := 7) rfl (by decide) rfl (Nat.le_of_ble_eq_true rfl) (fun r F h => ?_) rfl
  · rw [d25] at h; rw [(hb_bit_ne hi hv).mp h, d90 k hk]; exact Or.inr (hi1.2.2.2 k hk)
  · rw [show D 72 26 = bit j from D1] at h; rw [(hb_bit_ne hj hv).mp h, d91 k hk]; exact Or.inr (hj1.2.2.2 k hk)
  have hF := h
  obtain ⟨_, T, _, _, _, _, _, hr, _⟩ := h
  rw [hr]
  show G _ 20 [some (.ref 72), some (.int (nI i)), some (.int (nI j))] [.int (T 40 0)] F _
  exact g_ireturn (by decide +kernel) rfl rfl ⟨D, d25, D1, d27, D2, d90, d91, d39, d72, dz, by rw [← hr]; exact hF⟩
theorem s_pair0 (M : Mem) {i j : Int32} (hno : twoB (M 0 7) i j = false) : Spec mX6_pair [.ref 0, .int i, .int j] M (Ret (-1000000) M) := by
  refine Spec.of (by decide) (by simp [Value.category]) (Nat.le_of_ble_eq_true rfl) ?_
  refine blk 6 [(.aload_n 0, 0, 0, 0), (.iload_n 1, 0, 0, 0), (.iload_n 2, 0, 0, 0)] [] (by decide +kernel) rfl (pc' := 3) (ls' := [some (.ref 0), some (.int i), some (.int j)]) (st' := [.int j, .int i, .ref 0]) (M' := M) rfl ⟨trivial, trivial, trivial, trivial⟩ ?_
  refine g_callV (s_areTwoWords _ i j) ok_X6_pair_X6_areTwoWords (by decide +kernel) rfl (c := 6) rfl (by decide) rfl (Nat.le_of_ble_eq_true rfl) (fun r M' h => ?_) rfl
  obtain ⟨hr, hM⟩ := h
  rw [hr, hM]
  show G _ 6 [some (.ref 0), some (.int i), some (.int j)] [.int (bI (twoB (M 0 7) i j))] M _
  refine g_if_eq (off := 12) (tgt := 18) (by decide +kernel) (by decide) (fun c1 => ?_) (fun c1 => ?_)
  · refine blk 6 [(.ldc 104, 0, 0, (-1000000))] [] (by decide +kernel) rfl (pc' := 20) (ls' := [some (.ref 0), some (.int i), some (.int j)]) (st' := [.int (-1000000)]) (M' := M) rfl ⟨trivial, trivial⟩ ?_
    exact g_ireturn (by decide +kernel) rfl rfl ⟨rfl, rfl⟩
  · exact absurd (bI_ne c1) (by rw [hno]; decide)
theorem s_pair1_35 (M : Mem) {i j li lj : Nat} (htw : twoB (M 0 7) (nI i) (nI j) = true) (hT : (M 0 6).toNatClampNeg = 35) (hi : i < 5) (hj : j < 5) (hij : i ≠ j) (hi1 : wordOK M i li) (hj1 : wordOK M j lj) (h97 : ∀ a, a < 5 → M 97 a = 1) (hsc : ∀ k, k < 16 → sm 20 (M 3 k)) (hop : ps 20 (M 2 1)) (hex : ps 20 (M 2 2)) : Spec mX6_pair [.ref 0, .int (nI i), .int (nI j)] M (motP M 51 i j li lj) := by
  refine Spec.of (by decide) (by simp [Value.category]) (Nat.le_of_ble_eq_true rfl) ?_
  refine blk 6 [(.aload_n 0, 0, 0, 0), (.iload_n 1, 0, 0, 0), (.iload_n 2, 0, 0, 0)] [] (by decide +kernel) rfl (pc' := 3) (ls' := [some (.ref 0), some (.int (nI i)), some (.int (nI j))]) (st' := [.int (nI j), .int (nI i), .ref 0]) (M' := M) rfl ⟨trivial, trivial, trivial, trivial⟩ ?_
  refine g_callV (s_areTwoWords _ (nI i) (nI j)) ok_X6_pair_X6_areTwoWords (by decide +kernel) rfl (c := 6) rfl (by decide) rfl (Nat.le_of_ble_eq_true rfl) (fun r M' h => ?_) rfl
  obtain ⟨hr, hM⟩ := h
  rw [hr, hM]
  show G _ 6 [some (.ref 0), some (.int (nI i)), some (.int (nI j))] [.int (bI (twoB (M 0 7) (nI i) (nI j)))] M _
  refine g_if_eq (off := 12) (tgt := 18) (by decide +kernel) (by decide) (fun c1 => ?_) (fun c1 => ?_)
  · refine blk 6 [(.ldc 104, 0, 0, (-1000000))] [] (by decide +kernel) rfl (pc' := 20) (ls' := [some (.ref 0), some (.int (nI i)), some (.int (nI j))]) (st' := [.int (-1000000)]) (M' := M) rfl ⟨trivial, trivial⟩ ?_
    exact absurd (bI_eq c1) (by rw [htw]; decide)
  · refine blk 6 [(.aload_n 0, 0, 0, 0), (.iload_n 1, 0, 0, 0), (.iload_n 2, 0, 0, 0)] [] (by decide +kernel) rfl (pc' := 12) (ls' := [some (.ref 0), some (.int (nI i)), some (.int (nI j))]) (st' := [.int (nI j), .int (nI i), .ref 0]) (M' := M) rfl ⟨trivial, trivial, trivial, trivial⟩ ?_
    refine g_callV (s_mot35 M (i := i) (j := j) (li := li) (lj := lj) hT hi hj hij hi1 hj1 h97 hsc hop hex) ok_X6_pair_X6_mergeOnTrial (by decide +kernel) rfl (c := 6) rfl (by decide) rfl (Nat.le_of_ble_eq_true rfl) (fun r F h => ?_) rfl
    have hF := h
    obtain ⟨_, _, _, _, _, _, _, T, _, _, _, _, _, _, hr, _⟩ := h
    rw [hr]
    show G _ 15 [some (.ref 0), some (.int (nI i)), some (.int (nI j))] [.int (T 12 0)] F _
    refine blk 6 [(.goto (5), 20, 0, 0)] [] (by decide +kernel) rfl (pc' := 20) (ls' := [some (.ref 0), some (.int (nI i)), some (.int (nI j))]) (st' := [.int (T 12 0)]) (M' := F) rfl ⟨trivial, trivial⟩ ?_
    exact g_ireturn (by decide +kernel) rfl rfl (by rw [← hr]; exact hF)
theorem s_pair1_37 (M : Mem) {i j li lj : Nat} (htw : twoB (M 0 7) (nI i) (nI j) = true) (hT : (M 0 6).toNatClampNeg = 37) (hi : i < 5) (hj : j < 5) (hij : i ≠ j) (hi1 : wordOK M i li) (hj1 : wordOK M j lj) (h97 : ∀ a, a < 5 → M 97 a = 1) (hsc : ∀ k, k < 16 → sm 20 (M 3 k)) (hop : ps 20 (M 2 1)) (hex : ps 20 (M 2 2)) : Spec mX6_pair [.ref 0, .int (nI i), .int (nI j)] M (motP M 61 i j li lj) := by
  refine Spec.of (by decide) (by simp [Value.category]) (Nat.le_of_ble_eq_true rfl) ?_
  refine blk 6 [(.aload_n 0, 0, 0, 0), (.iload_n 1, 0, 0, 0), (.iload_n 2, 0, 0, 0)] [] (by decide +kernel) rfl (pc' := 3) (ls' := [some (.ref 0), some (.int (nI i)), some (.int (nI j))]) (st' := [.int (nI j), .int (nI i), .ref 0]) (M' := M) rfl ⟨trivial, trivial, trivial, trivial⟩ ?_
  refine g_callV (s_areTwoWords _ (nI i) (nI j)) ok_X6_pair_X6_areTwoWords (by decide +kernel) rfl (c := 6) rfl (by decide) rfl (Nat.le_of_ble_eq_true rfl) (fun r M' h => ?_) rfl
  obtain ⟨hr, hM⟩ := h
  rw [hr, hM]
  show G _ 6 [some (.ref 0), some (.int (nI i)), some (.int (nI j))] [.int (bI (twoB (M 0 7) (nI i) (nI j)))] M _
  refine g_if_eq (off := 12) (tgt := 18) (by decide +kernel) (by decide) (fun c1 => ?_) (fun c1 => ?_)
  · refine blk 6 [(.ldc 104, 0, 0, (-1000000))] [] (by decide +kernel) rfl (pc' := 20) (ls' := [some (.ref 0), some (.int (nI i)), some (.int (nI j))]) (st' := [.int (-1000000)]) (M' := M) rfl ⟨trivial, trivial⟩ ?_
    exact absurd (bI_eq c1) (by rw [htw]; decide)
  · refine blk 6 [(.aload_n 0, 0, 0, 0), (.iload_n 1, 0, 0, 0), (.iload_n 2, 0, 0, 0)] [] (by decide +kernel) rfl (pc' := 12) (ls' := [some (.ref 0), some (.int (nI i)), some (.int (nI j))]) (st' := [.int (nI j), .int (nI i), .ref 0]) (M' := M) rfl ⟨trivial, trivial, trivial, trivial⟩ ?_
    refine g_callV (s_mot37 M (i := i) (j := j) (li := li) (lj := lj) hT hi hj hij hi1 hj1 h97 hsc hop hex) ok_X6_pair_X6_mergeOnTrial (by decide +kernel) rfl (c := 6) rfl (by decide) rfl (Nat.le_of_ble_eq_true rfl) (fun r F h => ?_) rfl
    have hF := h
    obtain ⟨_, _, _, _, _, _, _, T, _, _, _, _, _, _, hr, _⟩ := h
    rw [hr]
    show G _ 15 [some (.ref 0), some (.int (nI i)), some (.int (nI j))] [.int (T 12 0)] F _
    refine blk 6 [(.goto (5), 20, 0, 0)] [] (by decide +kernel) rfl (pc' := 20) (ls' := [some (.ref 0), some (.int (nI i)), some (.int (nI j))]) (st' := [.int (T 12 0)]) (M' := F) rfl ⟨trivial, trivial⟩ ?_
    exact g_ireturn (by decide +kernel) rfl rfl (by rw [← hr]; exact hF)
theorem s_mpair0 (M : Mem) {i j : Int32} (hno : twoB (M 72 0) i j = false) : Spec mX7_pair [.ref 72, .int i, .int j] M (Ret (-1000000) M) := by
  refine Spec.of (by decide) (by simp [Value.category]) (Nat.le_of_ble_eq_true rfl) ?_
  refine blk 7 [(.aload_n 0, 0, 0, 0), (.iload_n 1, 0, 0, 0), (.iload_n 2, 0, 0, 0)] [] (by decide +kernel) rfl (pc' := 3) (ls' := [some (.ref 72), some (.int i), some (.int j)]) (st' := [.int j, .int i, .ref 72]) (M' := M) rfl ⟨trivial, trivial, trivial, trivial⟩ ?_
  refine g_callV (s_areTwo _ i j) ok_X7_pair_X7_areTwo (by decide +kernel) rfl (c := 7) rfl (by decide) rfl (Nat.le_of_ble_eq_true rfl) (fun r M' h => ?_) rfl
  obtain ⟨hr, hM⟩ := h
  rw [hr, hM]
  show G _ 6 [some (.ref 72), some (.int i), some (.int j)] [.int (bI (twoB (M 72 0) i j))] M _
  refine g_if_eq (off := 12) (tgt := 18) (by decide +kernel) (by decide) (fun c1 => ?_) (fun c1 => ?_)
  · refine blk 7 [(.ldc 181, 0, 0, (-1000000))] [] (by decide +kernel) rfl (pc' := 20) (ls' := [some (.ref 72), some (.int i), some (.int j)]) (st' := [.int (-1000000)]) (M' := M) rfl ⟨trivial, trivial⟩ ?_
    exact g_ireturn (by decide +kernel) rfl rfl ⟨rfl, rfl⟩
  · exact absurd (bI_ne c1) (by rw [hno]; decide)
theorem s_mpair1 (M : Mem) {i j li lj : Nat} (htw : twoB (M 72 0) (nI i) (nI j) = true) (hi : i < 5) (hj : j < 5) (hi1 : mwordOK M i li) (hj1 : mwordOK M j lj) : Spec mX7_pair [.ref 72, .int (nI i), .int (nI j)] M (mmwP M i j li lj) := by
  refine Spec.of (by decide) (by simp [Value.category]) (Nat.le_of_ble_eq_true rfl) ?_
  refine blk 7 [(.aload_n 0, 0, 0, 0), (.iload_n 1, 0, 0, 0), (.iload_n 2, 0, 0, 0)] [] (by decide +kernel) rfl (pc' := 3) (ls' := [some (.ref 72), some (.int (nI i)), some (.int (nI j))]) (st' := [.int (nI j), .int (nI i), .ref 72]) (M' := M) rfl ⟨trivial, trivial, trivial, trivial⟩ ?_
  refine g_callV (s_areTwo _ (nI i) (nI j)) ok_X7_pair_X7_areTwo (by decide +kernel) rfl (c := 7) rfl (by decide) rfl (Nat.le_of_ble_eq_true rfl) (fun r M' h => ?_) rfl
  obtain ⟨hr, hM⟩ := h
  rw [hr, hM]
  show G _ 6 [some (.ref 72), some (.int (nI i)), some (.int (nI j))] [.int (bI (twoB (M 72 0) (nI i) (nI j)))] M _
  refine g_if_eq (off := 12) (tgt := 18) (by decide +kernel) (by decide) (fun c1 => ?_) (fun c1 => ?_)
  · refine blk 7 [(.ldc 181, 0, 0, (-1000000))] [] (by decide +kernel) rfl (pc' := 20) (ls' := [some (.ref 72), some (.int (nI i)), some (.int (nI j))]) (st' := [.int (-1000000)]) (M' := M) rfl ⟨trivial, trivial⟩ ?_
    exact absurd (bI_eq c1) (by rw [htw]; decide)
  · refine blk 7 [(.aload_n 0, 0, 0, 0), (.iload_n 1, 0, 0, 0), (.iload_n 2, 0, 0, 0)] [] (by decide +kernel) rfl (pc' := 12) (ls' := [some (.ref 72), some (.int (nI i)), some (.int (nI j))]) (st' := [.int (nI j), .int (nI i), .ref 72]) (M' := M) rfl ⟨trivial, trivial, trivial, trivial⟩ ?_
    refine g_callV (s_mmw M (i := i) (j := j) (li := li) (lj := lj) hi hj hi1 hj1) ok_X7_pair_X7_mergeWords (by decide +kernel) rfl (c := 7) rfl (by decide) rfl (Nat.le_of_ble_eq_true rfl) (fun r F h => ?_) rfl
    have hF := h
    obtain ⟨_, _, _, _, _, _, _, _, _, _, _, T, _, _, _, _, _, hr, _⟩ := h
    rw [hr]
    show G _ 15 [some (.ref 72), some (.int (nI i)), some (.int (nI j))] [.int (T 40 0)] F _
    refine blk 7 [(.goto (5), 20, 0, 0)] [] (by decide +kernel) rfl (pc' := 20) (ls' := [some (.ref 72), some (.int (nI i)), some (.int (nI j))]) (st' := [.int (T 40 0)]) (M' := F) rfl ⟨trivial, trivial⟩ ?_
    exact g_ireturn (by decide +kernel) rfl rfl (by rw [← hr]; exact hF)
end
