/-! the two tables hold the same worths; the two walks take the same steps -/
theorem sub3 (a b c : Int32) : a - b - c = a - c - b := by
  rw [Int32.sub_eq_add_neg, Int32.sub_eq_add_neg, Int32.sub_eq_add_neg, Int32.sub_eq_add_neg, Int32.add_assoc, Int32.add_assoc, Int32.add_comm (-b)]
theorem sub0 (a : Int32) : a - nI 0 = a := by rw [nI_0]; exact Int32.sub_zero a
/-- the two sides have the same data -/
def sameD (T U : Mem) (p q : Nat) (pA qA : Int32) : Prop := (∀ i j, i < p → j < q → mtF T i j = U 93 (60 * i + j)) ∧ (∀ i, i < p → T 2 2 * T 7 i * T 8 2 = U 72 7 * U 94 i * qA) ∧ (∀ j, j < q → T 2 2 * T 10 j * T 5 2 = U 72 7 * U 95 j * pA) ∧ T 4 6 = U 72 6 * pA * qA
theorem sw_is {T U : Mem} {p q i j l : Nat} {pA qA : Int32} (hs : sameD T U p q pA qA) (ht : ∀ a b c, a ≤ p → b ≤ q → c < 3 → i + j < a + b → T (12 + c) (a * (q + 1) + b) = U 40 (3 * (61 * a + b) + c)) :
    (i < p ∧ j < q → swF U i j l 0 pA qA = lkB T p q i j) ∧ (i < p → j ≤ q → swF U i j l 1 pA qA = waV (lkB T p q i j) (lkL T p q i j) (lkR T p q i j) (T 4 6) l 1) ∧ (j < q → i ≤ p → swF U i j l 2 pA qA = waV (lkB T p q i j) (lkL T p q i j) (lkR T p q i j) (T 4 6) l 2) := by
  obtain ⟨s1, s2, s3, s4⟩ := hs
  refine ⟨fun h => ?_, fun h hj => ?_, fun h hi => ?_⟩
  · unfold swF lkB
    rw [if_pos rfl, if_pos h, ← s1 i j h.1 h.2, ← ht (i + 1) (j + 1) 0 (by omega) (by omega) (by omega) (by omega), Int32.add_comm]
  · have eS : swF U i j l 1 pA qA = U 40 (3 * (61 * (i + 1) + j) + 1) - (if 1 = l then nI 0 else U 72 6 * pA * qA) - U 72 7 * U 94 i * qA := by unfold swF; rw [if_neg (by decide), if_pos rfl]
    have eW : ∀ b L R op : Int32, waV b L R op l 1 = if 1 = l then L else L - op := fun b L R op => by unfold waV; rw [if_neg (by decide), if_pos rfl]
    have eL : lkL T p q i j = T 13 ((i + 1) * (q + 1) + j) - T 2 2 * T 7 i * T 8 2 := if_pos h
    have eT := ht (i + 1) j 1 (by omega) hj (by omega) (by omega)
    rw [show 12 + 1 = 13 from rfl] at eT
    rw [eS, eW, eL, ← eT, ← s2 i h, ← s4]
    by_cases e : 1 = l
    · rw [if_pos e, if_pos e, sub0]
    · rw [if_neg e, if_neg e, sub3]
  · have eS : swF U i j l 2 pA qA = U 40 (3 * (61 * i + (j + 1)) + 2) - (if 2 = l then nI 0 else U 72 6 * pA * qA) - U 72 7 * U 95 j * pA := by unfold swF; rw [if_neg (by decide), if_neg (by decide)]
    have eW : ∀ b L R op : Int32, waV b L R op l 2 = if 2 = l then R else R - op := fun b L R op => by unfold waV; rw [if_neg (by decide), if_neg (by decide)]
    have eR : lkR T p q i j = T 14 (i * (q + 1) + (j + 1)) - T 2 2 * T 10 j * T 5 2 := if_pos h
    have eT := ht i (j + 1) 2 hi (by omega) (by omega) (by omega)
    rw [show 12 + 2 = 14 from rfl] at eT
    rw [eS, eW, eR, ← eT, ← s3 j h, ← s4]
    by_cases e : 2 = l
    · rw [if_pos e, if_pos e, sub0]
    · rw [if_neg e, if_neg e, sub3]
theorem canB_iff {p q i j : Nat} : (canB p q i j 0 = true ↔ i < p ∧ j < q) ∧ (canB p q i j 1 = true ↔ i < p) ∧ (canB p q i j 2 = true ↔ j < q) := by
  unfold canB
  refine ⟨?_, ?_, ?_⟩
  · rw [if_pos rfl, decide_eq_true_eq]
  · rw [if_neg (by decide), if_pos rfl, decide_eq_true_eq]
  · rw [if_neg (by decide), if_neg (by decide), decide_eq_true_eq]
theorem one_step {T U : Mem} {p q i j l : Nat} {pA qA : Int32} (hB : bnd T p q) (hp : p + q ≤ 96) (hT : tb T p q (fun _ _ => True)) (hs : sameD T U p q pA qA) (hi : i ≤ p) (hj : j ≤ q) (hl : l ≤ 2) (ha : i < p ∨ j < q) (ht : ∀ a b c, a ≤ p → b ≤ q → c < 3 → i + j < a + b → T (12 + c) (a * (q + 1) + b) = U 40 (3 * (61 * a + b) + c)) :
    mdp U p q pA qA i j l = waV (lkB T p q i j) (lkL T p q i j) (lkR T p q i j) (T 4 6) l (chM T p q i j l) ∧ (U 40 (3 * (61 * i + j) + l) = mdp U p q pA qA i j l → mch U p q pA qA i j l = chM T p q i j l) := by
  have hk := lk_sm (B := 2000000 * 96) hB hi hj (by omega) (fun a b l ha hb hl h => sm_mono (tab_sm hB hp hT _ a b l ha hb hl rfl) (by omega))
  have hw := wa_real (b := lkB T p q i j) (l := l) (B := 2000000 * 96 + 1000000) (by omega) hB.2.2.2 hk.2.1 hk.2.2
  have hv := sw_is (l := l) hs ht
  have hc := canB_iff (p := p) (q := q) (i := i) (j := j)
  have nv := never_ti
  have := ch_eq (can := canB p q i j) (v := fun s => swF U i j l s pA qA) (cl := i < p) (cr := j < q) (b := lkB T p q i j) (L := lkL T p q i j) (R := lkR T p q i j) (op := T 4 6) (l := l) hc.1 hc.2.1 hc.2.2 hv.1 (fun h => hv.2.1 h hj) (fun h => hv.2.2 h hi)
    (fun h => by rcases hk.1 with ⟨_, z⟩ | ⟨z, _⟩; unfold sm at z; omega; exact absurd h z) (fun h => by rcases hk.1 with ⟨z, _⟩ | ⟨_, z⟩; exact absurd z h; rw [z, nv]) hw.1 hw.2 ha
  refine ⟨this.1, fun e => ?_⟩
  rw [← show (if canB p q i j 0 && decide (swF U i j l 0 pA qA = mdp U p q pA qA i j l) then 0 else if canB p q i j 1 && decide (swF U i j l 1 pA qA = mdp U p q pA qA i j l) then 1 else 2) = chM T p q i j l from this.2, ← e]
  rfl
theorem tab_same {T U : Mem} {p q : Nat} {pA qA : Int32} (hB : bnd T p q) (hp : p + q ≤ 96) (hT : tb T p q (fun _ _ => True)) (hU : tbm U p q pA qA (fun _ _ => True)) (hs : sameD T U p q pA qA) : ∀ n i j l, i ≤ p → j ≤ q → l < 3 → p + q - (i + j) = n → T (12 + l) (i * (q + 1) + j) = U 40 (3 * (61 * i + j) + l) := by
  intro n
  induction n using Nat.strongRecOn with
  | ind n ih =>
    intro i j l hi hj hl hn
    rw [hT i j l hi hj hl trivial, hU i j l hi hj hl trivial, dpv]
    by_cases e : i = p ∧ j = q
    · rw [if_pos e, mdp]
      have hc := canB_iff (p := p) (q := q) (i := i) (j := j)
      have c0 : ¬ canB p q i j 0 = true := fun z => by have := hc.1.mp z; omega
      have c1 : ¬ canB p q i j 1 = true := fun z => by have := hc.2.1.mp z; omega
      have c2 : ¬ canB p q i j 2 = true := fun z => by have := hc.2.2.mp z; omega
      rw [msF, if_neg c2, msF, if_neg c1, msF, if_neg c0, msF]
      exact nI_0.symm
    · rw [if_neg e]
      exact (one_step hB hp hT hs hi hj (by omega) (by omega) (fun a b c ha hb hc h => ih (p + q - (a + b)) (by omega) a b c ha hb hc rfl)).1.symm
theorem ch_same {T U : Mem} {p q i j l : Nat} {pA qA : Int32} (hB : bnd T p q) (hp : p + q ≤ 96) (hT : tb T p q (fun _ _ => True)) (hU : tbm U p q pA qA (fun _ _ => True)) (hs : sameD T U p q pA qA) (hi : i ≤ p) (hj : j ≤ q) (hl : l ≤ 2) (ha : i < p ∨ j < q) : mch U p q pA qA i j l = chM T p q i j l :=
  (one_step hB hp hT hs hi hj hl ha (fun a b c h1 h2 h3 _ => tab_same hB hp hT hU hs _ a b c h1 h2 h3 rfl)).2 (hU i j l hi hj (by omega) trivial)
theorem walk_same {T U : Mem} {p q n : Nat} {pA qA : Int32} (hB : bnd T p q) (hp : p + q ≤ 96) (hT : tb T p q (fun _ _ => True)) (hU : tbm U p q pA qA (fun _ _ => True)) (hs : sameD T U p q pA qA) (hw : wlk T p q n) : ∀ k, k ≤ n → mst U p q pA qA k = wst T p q k := by
  intro k
  induction k with
  | zero => intro _; rfl
  | succ k ih =>
    intro hk
    have e := ih (by omega)
    have h := hw.2.2.2 k (by omega)
    have c : mch U p q pA qA (wst T p q k).1 (wst T p q k).2.1 (wst T p q k).2.2 = chM T p q (wst T p q k).1 (wst T p q k).2.1 (wst T p q k).2.2 := ch_same hB hp hT hU hs h.1 h.2.1 (wst_le T p q k) h.2.2
    rw [mst, wst, e, c]
theorem walk_len {T U : Mem} {p q n m : Nat} {pA qA : Int32} (hB : bnd T p q) (hp : p + q ≤ 96) (hT : tb T p q (fun _ _ => True)) (hU : tbm U p q pA qA (fun _ _ => True)) (hs : sameD T U p q pA qA) (hw : wlk T p q n) (hm : mwlk U p q pA qA m) : m = n := by
  have e := walk_same hB hp hT hU hs hw
  rcases Nat.lt_or_ge m n with h | h
  · have e1 := e m (by omega)
    have h1 := hw.2.2.2 m h
    have h2 := hm.2.1
    have h3 := hm.2.2.1
    rw [e1] at h2 h3
    omega
  · rcases Nat.lt_or_ge n m with h' | h'
    · have e1 := e n (by omega)
      have h1 := hm.2.2.2 n h'
      rw [e1] at h1
      have h2 := hw.2.1
      have h3 := hw.2.2.1
      omega
    · omega
