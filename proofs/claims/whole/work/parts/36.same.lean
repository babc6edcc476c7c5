/-! the class's table and the reference's are the same, and so are the walks -/
theorem wa_real {b L R op : Int32} {l : Nat} {B : Int} {cl cr : Prop} (hB : 0 ≤ B ∧ B ≤ 400000000) (ho : 0 ≤ op.toInt ∧ op.toInt ≤ 1000000) (hL : (cl ∧ sm B L) ∨ (¬ cl ∧ L = -1000000000)) (hR : (cr ∧ sm B R) ∨ (¬ cr ∧ R = -1000000000)) :
    ((cl → -500000000 ≤ (waV b L R op l 1).toInt) ∧ (¬ cl → (waV b L R op l 1).toInt ≤ -1000000000)) ∧ ((cr → -500000000 ≤ (waV b L R op l 2).toInt) ∧ (¬ cr → (waV b L R op l 2).toInt ≤ -1000000000)) := by
  have nv := never_ti
  have hLt : -1000000000 ≤ L.toInt ∧ L.toInt ≤ 400000000 := by
    rcases hL with ⟨_, h⟩ | ⟨_, h⟩
    · unfold sm at h; omega
    · rw [h, nv]; omega
  have hRt : -1000000000 ≤ R.toInt ∧ R.toInt ≤ 400000000 := by
    rcases hR with ⟨_, h⟩ | ⟨_, h⟩
    · unfold sm at h; omega
    · rw [h, nv]; omega
  have eL : (L - op).toInt = L.toInt - op.toInt := ti_sub (by omega) (by omega) (by omega) (by omega)
  have eR : (R - op).toInt = R.toInt - op.toInt := ti_sub (by omega) (by omega) (by omega) (by omega)
  have e1 : waV b L R op l 1 = if 1 = l then L else L - op := by unfold waV; rw [if_neg (by decide), if_pos rfl]
  have e2 : waV b L R op l 2 = if 2 = l then R else R - op := by unfold waV; rw [if_neg (by decide), if_neg (by decide)]
  rw [e1, e2]
  refine ⟨⟨fun h => ?_, fun h => ?_⟩, ⟨fun h => ?_, fun h => ?_⟩⟩
  · rcases hL with ⟨_, h1⟩ | ⟨n, _⟩
    · unfold sm at h1; split
      · omega
      · rw [eL]; omega
    · exact absurd h n
  · rcases hL with ⟨h1, _⟩ | ⟨_, h1⟩
    · exact absurd h1 h
    · have : L.toInt = -1000000000 := by rw [h1, nv]
      split
      · omega
      · rw [eL]; omega
  · rcases hR with ⟨_, h1⟩ | ⟨n, _⟩
    · unfold sm at h1; split
      · omega
      · rw [eR]; omega
    · exact absurd h n
  · rcases hR with ⟨h1, _⟩ | ⟨_, h1⟩
    · exact absurd h1 h
    · have : R.toInt = -1000000000 := by rw [h1, nv]
      split
      · omega
      · rw [eR]; omega
theorem i32_eq {a b : Int32} (h : a.toInt = b.toInt) : a = b := Int32.toInt_inj.mp h
/-- the greatest of the steps that can be taken, both ways, and the step that has it -/
theorem ch_eq {b L R op : Int32} {l : Nat} {can : Nat → Bool} {v : Nat → Int32} {cl cr : Prop} (hc0 : can 0 = true ↔ cl ∧ cr) (hc1 : can 1 = true ↔ cl) (hc2 : can 2 = true ↔ cr) (v0 : cl ∧ cr → v 0 = b) (v1 : cl → v 1 = waV b L R op l 1) (v2 : cr → v 2 = waV b L R op l 2) (hb1 : cl ∧ cr → -500000000 ≤ b.toInt) (hb2 : ¬ (cl ∧ cr) → b.toInt = -1000000000)
    (hx : (cl → -500000000 ≤ (waV b L R op l 1).toInt) ∧ (¬ cl → (waV b L R op l 1).toInt ≤ -1000000000)) (hy : (cr → -500000000 ≤ (waV b L R op l 2).toInt) ∧ (¬ cr → (waV b L R op l 2).toInt ≤ -1000000000)) (hany : cl ∨ cr) :
    (msF can v 3).2 = waV b L R op l (chV b L R op l) ∧ (if can 0 && decide (v 0 = (msF can v 3).2) then 0 else if can 1 && decide (v 1 = (msF can v 3).2) then 1 else 2) = chV b L R op l := by
  have w0 : waV b L R op l 0 = b := by unfold waV; rw [if_pos rfl]
  have n1 : ¬ nI 1 = 0 := by decide +kernel
  have n0 : nI 0 = 0 := nI_0
  have m3 : msF can v 3 = if can 2 then (nI 1, if ¬ (msF can v 2).1 = 0 ∧ ¬ (msF can v 2).2 < v 2 then (msF can v 2).2 else v 2) else msF can v 2 := rfl
  have m2 : msF can v 2 = if can 1 then (nI 1, if ¬ (msF can v 1).1 = 0 ∧ ¬ (msF can v 1).2 < v 1 then (msF can v 1).2 else v 1) else msF can v 1 := rfl
  have m1 : msF can v 1 = if can 0 then (nI 1, if ¬ (nI 0) = 0 ∧ ¬ (nI 0) < v 0 then nI 0 else v 0) else (nI 0, nI 0) := rfl
  have hch : chV b L R op l = if ¬ b < waV b L R op l 1 ∧ ¬ b < waV b L R op l 2 then 0 else if ¬ waV b L R op l 1 < waV b L R op l 2 then 1 else 2 := rfl
  generalize h1 : waV b L R op l 1 = x at *
  generalize h2 : waV b L R op l 2 = y at *
  have lxy : x < y ↔ x.toInt < y.toInt := Int32.lt_iff_toInt_lt
  have lbx : b < x ↔ b.toInt < x.toInt := Int32.lt_iff_toInt_lt
  have lby : b < y ↔ b.toInt < y.toInt := Int32.lt_iff_toInt_lt
  by_cases hcl : cl
  · by_cases hcr : cr
    · -- all three
      have c0 : can 0 = true := hc0.mpr ⟨hcl, hcr⟩
      have c1 : can 1 = true := hc1.mpr hcl
      have c2 : can 2 = true := hc2.mpr hcr
      have e0 := v0 ⟨hcl, hcr⟩
      have e1 := v1 hcl
      have e2 := v2 hcr
      rw [if_pos c0, if_neg (fun z => z.1 n0), e0] at m1
      rw [if_pos c1, m1, e1] at m2
      have m2' : msF can v 2 = (nI 1, if ¬ b < x then b else x) := by
        rw [m2]
        by_cases q : b < x
        · rw [if_neg (fun z => z.2 q), if_neg (fun z => z q)]
        · rw [if_pos ⟨n1, q⟩, if_pos q]
      rw [if_pos c2, m2', e2] at m3
      have hm : (msF can v 3).2 = if ¬ (if ¬ b < x then b else x) < y then (if ¬ b < x then b else x) else y := by
        rw [m3]
        show (if ¬ nI 1 = 0 ∧ ¬ (if ¬ b < x then b else x) < y then (if ¬ b < x then b else x) else y) = _
        by_cases q : (if ¬ b < x then b else x) < y
        · rw [if_neg (fun z => z.2 q), if_neg (fun z => z q)]
        · rw [if_pos ⟨n1, q⟩, if_pos q]
      by_cases q1 : b < x
      · by_cases q2 : x < y
        · simp [q1, q2] at hm
          have t1 := lbx.mp q1
          have t2 := lxy.mp q2
          have k1 : ¬ b = y := fun z => by rw [z] at t1; omega
          have k2 : ¬ x = y := fun z => by rw [z] at t2; omega
          rw [hm, hch, if_neg (fun z => z.1 q1), if_neg (fun z => z q2), h2, c0, c1, e0, e1]
          exact ⟨rfl, by simp [k1, k2]⟩
        · simp [q1, q2] at hm
          have t1 := lbx.mp q1
          have k1 : ¬ b = x := fun z => by rw [z] at t1; omega
          rw [hm, hch, if_neg (fun z => z.1 q1), if_pos q2, h1, c0, c1, e0, e1]
          exact ⟨rfl, by simp [k1]⟩
      · by_cases q2 : b < y
        · simp [q1, q2] at hm
          have t1 : ¬ b.toInt < x.toInt := fun z => q1 (lbx.mpr z)
          have t2 := lby.mp q2
          have q3 : x < y := lxy.mpr (by omega)
          have t3 := lxy.mp q3
          have k1 : ¬ b = y := fun z => by rw [z] at t2; omega
          have k2 : ¬ x = y := fun z => by rw [z] at t3; omega
          rw [hm, hch, if_neg (fun z => z.2 q2), if_neg (fun z => z q3), h2, c0, c1, e0, e1]
          exact ⟨rfl, by simp [k1, k2]⟩
        · simp [q1, q2] at hm
          rw [hm, hch, if_pos ⟨q1, q2⟩, w0, c0, e0]
          exact ⟨rfl, by simp⟩
    · -- LEFT alone
      have c0 : ¬ can 0 = true := fun z => hcr (hc0.mp z).2
      have c1 : can 1 = true := hc1.mpr hcl
      have c2 : ¬ can 2 = true := fun z => hcr (hc2.mp z)
      have e1 := v1 hcl
      rw [if_neg c0] at m1
      rw [if_pos c1, m1, if_neg (fun z => z.1 n0), e1] at m2
      rw [if_neg c2, m2] at m3
      have hm : (msF can v 3).2 = x := by rw [m3]
      have hb := hb2 (fun z => hcr z.2)
      have hx1 := hx.1 hcl
      have hy1 := hy.2 hcr
      have c0' : can 0 = false := by cases h : can 0; rfl; exact absurd h c0
      rw [hm, hch, if_neg (fun z => z.1 (lbx.mpr (by omega))), if_pos (fun z => absurd (lxy.mp z) (by omega)), h1, c0', c1, e1]
      exact ⟨rfl, by simp⟩
  · -- RIGHT alone
    have hcr : cr := hany.resolve_left hcl
    have c0 : ¬ can 0 = true := fun z => hcl (hc0.mp z).1
    have c1 : ¬ can 1 = true := fun z => hcl (hc1.mp z)
    have c2 : can 2 = true := hc2.mpr hcr
    have e2 := v2 hcr
    rw [if_neg c0] at m1
    rw [if_neg c1, m1] at m2
    rw [if_pos c2, m2, if_neg (fun z => z.1 n0), e2] at m3
    have hm : (msF can v 3).2 = y := by rw [m3]
    have hb := hb2 (fun z => hcl z.1)
    have hx1 := hx.2 hcl
    have hy1 := hy.1 hcr
    have c0' : can 0 = false := by cases h : can 0; rfl; exact absurd h c0
    have c1' : can 1 = false := by cases h : can 1; rfl; exact absurd h c1
    rw [hm, hch, if_neg (fun z => z.2 (lby.mpr (by omega))), if_neg (fun z => z (lxy.mpr (by omega))), h2, c0', c1']
    exact ⟨rfl, by simp⟩
