/-! marks: class and reference -/
theorem pmax_spec (f : Nat → Int32) : ∀ m, (∀ i, i < m → (f i).toInt ≤ (pmax f m).toInt) ∧ 0 ≤ (pmax f m).toInt ∧ (pmax f m = 0 ∨ ∃ i, i < m ∧ pmax f m = f i) := by
  intro m
  induction m with
  | zero => exact ⟨fun i h => absurd h (Nat.not_lt_zero i), by show 0 ≤ (0 : Int32).toInt; decide, Or.inl rfl⟩
  | succ m ih =>
    obtain ⟨i1, i2, i3⟩ := ih
    rw [pmax]
    by_cases c : pmax f m < f m
    · rw [if_pos c]
      have c' := Int32.lt_iff_toInt_lt.mp c
      refine ⟨fun i hi => ?_, by omega, Or.inr ⟨m, by omega, rfl⟩⟩
      by_cases e : i = m
      · subst e; exact Int.le_refl _
      · have := i1 i (by omega); omega
    · rw [if_neg c]
      have c' : ¬ (pmax f m).toInt < (f m).toInt := fun z => c (Int32.lt_iff_toInt_lt.mpr z)
      refine ⟨fun i hi => ?_, i2, ?_⟩
      · by_cases e : i = m
        · subst e; omega
        · exact i1 i (by omega)
      · rcases i3 with z | ⟨i, hi, z⟩
        · exact Or.inl z
        · exact Or.inr ⟨i, by omega, z⟩
theorem most_eq {a : Nat → Int32} {n : Nat} (hc : ∀ i, i < n → okc (a i)) : pmax (fun x => psum (fun i => if a i = nI x then (1 : Int32) else 0) n) 4 = pmax (fun v => psum (fun w => if ¬ a v = -1 ∧ a v = a w then (1 : Int32) else 0) n) n := by
  obtain ⟨c1, c2, c3⟩ := pmax_spec (fun x => psum (fun i => if a i = nI x then (1 : Int32) else 0) n) 4
  obtain ⟨d1, d2, d3⟩ := pmax_spec (fun v => psum (fun w => if ¬ a v = -1 ∧ a v = a w then (1 : Int32) else 0) n) n
  have same : ∀ v x, a v = nI x → x < 4 → psum (fun w => if ¬ a v = -1 ∧ a v = a w then (1 : Int32) else 0) n = psum (fun i => if a i = nI x then (1 : Int32) else 0) n := fun v x e hx => psum_congr (fun w _ => by
    rw [e]
    have ne : ¬ nI x = -1 := (by decide : ∀ x, x < 4 → ¬ nI x = -1) x hx
    by_cases q : a w = nI x
    · rw [if_pos ⟨ne, q.symm⟩, if_pos q]
    · rw [if_neg (fun z => q z.2.symm), if_neg q])
  have z0 : (0 : Int32).toInt = 0 := by decide
  generalize pmax (fun x => psum (fun i => if a i = nI x then (1 : Int32) else 0) n) 4 = C at *
  generalize pmax (fun v => psum (fun w => if ¬ a v = -1 ∧ a v = a w then (1 : Int32) else 0) n) n = D at *
  refine Int32.toInt_inj.mp (Int.le_antisymm ?_ ?_)
  · rcases c3 with e | ⟨x, hx, e⟩
    · rw [e, z0]; exact d2
    · by_cases q : ∃ v, v < n ∧ a v = nI x
      · obtain ⟨v, hv, ev⟩ := q
        have := d1 v hv
        rw [same v x ev hx] at this
        rw [e]; exact this
      · rw [e]
        have : psum (fun i => if a i = nI x then (1 : Int32) else 0) n = 0 := psum_zero (fun i hi => if_neg (fun z => q ⟨i, hi, z⟩))
        rw [this, z0]; exact d2
  · rcases d3 with e | ⟨v, hv, e⟩
    · rw [e, z0]; exact c2
    · rcases hc v hv with g | ⟨x, hx, g⟩
      · rw [e]
        have : psum (fun w => if ¬ a v = -1 ∧ a v = a w then (1 : Int32) else 0) n = 0 := psum_zero (fun w _ => if_neg (fun z => z.1 g))
        rw [this, z0]; exact c2
      · rw [e, same v x g hx]; exact c1 x hx
theorem allB_iff' {p : Nat → Bool} {n : Nat} : allB p n = true ↔ ∀ i, i < n → p i = true := by
  induction n with
  | zero => exact ⟨fun _ i h => absurd h (Nat.not_lt_zero i), fun _ => rfl⟩
  | succ n ih =>
    rw [allB, Bool.and_eq_true, ih]
    constructor
    · rintro ⟨h1, h2⟩ i hi
      by_cases e : i = n
      · subst e; exact h2
      · exact h1 i (by omega)
    · intro h
      exact ⟨fun i hi => h i (by omega), h n (by omega)⟩
theorem ncnt_inv {f : Nat → Int32} {g : Int32} : ∀ m, ncnt f g m = m → ∀ k, k < m → ¬ f k = g := by
  intro m
  induction m with
  | zero => intro _ k h; exact absurd h (Nat.not_lt_zero k)
  | succ m ih =>
    intro h k hk
    have l := ncnt_le f g m
    rw [ncnt] at h
    by_cases c : f m = g
    · rw [if_pos c] at h; omega
    · rw [if_neg c] at h
      by_cases e : k = m
      · subst e; exact c
      · exact ih (by omega) k (by omega)
theorem colon_eq {a : Nat → Int32} {sc sc' : Nat → Int32} {n : Nat} (hn : 2 ≤ n) (hc : ∀ i, i < n → okc (a i)) (hs : ∀ x y, x < 4 → y < 4 → sc (x * 4 + y) = sc (y * 4 + x)) (he : ∀ k, k < 16 → sc' k = sc k) : allB (fun i => allB (fun j => decide (a i ≠ -1 ∧ a j ≠ -1 ∧ 0 < sc (cd (a i) * 4 + cd (a j)))) i) n = (!(anyB (fun v => decide (a v = -1)) n) && allB (fun v => allB (fun w => decide (v = w ∨ a v = -1 ∨ a w = -1 ∨ ¬ sc' (cd (a v) * 4 + cd (a w)) ≤ 0)) n) n) := by
  have pos : ∀ x : Int32, 0 < x ↔ ¬ x ≤ 0 := fun x => Int32.not_le.symm
  have key : (allB (fun i => allB (fun j => decide (a i ≠ -1 ∧ a j ≠ -1 ∧ 0 < sc (cd (a i) * 4 + cd (a j)))) i) n = true) ↔ ((!(anyB (fun v => decide (a v = -1)) n) && allB (fun v => allB (fun w => decide (v = w ∨ a v = -1 ∨ a w = -1 ∨ ¬ sc' (cd (a v) * 4 + cd (a w)) ≤ 0)) n) n) = true) := by
    rw [Bool.and_eq_true, allB_iff', allB_iff']
    constructor
    · intro h
      have g : ∀ i, i < n → ∀ j, j < i → a i ≠ -1 ∧ a j ≠ -1 ∧ 0 < sc (cd (a i) * 4 + cd (a j)) := fun i hi j hj => of_decide_eq_true (allB_iff'.mp (h i hi) j hj)
      have ng : ∀ i, i < n → ¬ a i = -1 := fun i hi => by
        by_cases e : i = 0
        · subst e; exact (g 1 (by omega) 0 (by omega)).2.1
        · exact (g i hi 0 (by omega)).1
      have lt : ∀ i, i < n → cd (a i) < 4 := fun i hi => by
        obtain ⟨x, hx, e⟩ := (hc i hi).resolve_left (ng i hi)
        rw [e, cd_nI hx]; exact hx
      refine ⟨?_, fun v hv => allB_iff'.mpr (fun w hw => decide_eq_true ?_)⟩
      · cases e : anyB (fun v => decide (a v = -1)) n with
        | false => rfl
        | true =>
          obtain ⟨i, hi, q⟩ := anyB_iff.mp e
          exact absurd (of_decide_eq_true q) (ng i hi)
      · by_cases e : v = w
        · exact Or.inl e
        · refine Or.inr (Or.inr (Or.inr ?_))
          have l1 := lt v hv
          have l2 := lt w hw
          rw [he _ (by omega), ← pos]
          by_cases q : w < v
          · exact (g v hv w q).2.2
          · rw [hs _ _ l1 l2]
            exact (g w hw v (by omega)).2.2
    · rintro ⟨h1, h2⟩ i hi
      have ng : ∀ i, i < n → ¬ a i = -1 := fun i hi z => by
        rw [anyB_of hi (decide_eq_true z)] at h1
        cases h1
      have lt : ∀ i, i < n → cd (a i) < 4 := fun i hi => by
        obtain ⟨x, hx, e⟩ := (hc i hi).resolve_left (ng i hi)
        rw [e, cd_nI hx]; exact hx
      refine allB_iff'.mpr (fun j hj => decide_eq_true ⟨ng i hi, ng j (by omega), ?_⟩)
      have q := of_decide_eq_true (allB_iff'.mp (h2 i hi) j (by omega))
      rcases q with e | e | e | e
      · omega
      · exact absurd e (ng i hi)
      · exact absurd e (ng j (by omega))
      · have l1 := lt i hi
        have l2 := lt j (by omega)
        rw [he _ (by omega), ← pos] at e
        exact e
  cases h1 : allB (fun i => allB (fun j => decide (a i ≠ -1 ∧ a j ≠ -1 ∧ 0 < sc (cd (a i) * 4 + cd (a j)))) i) n with
  | true => rw [key.mp h1]
  | false =>
    cases h2 : (!(anyB (fun v => decide (a v = -1)) n) && allB (fun v => allB (fun w => decide (v = w ∨ a v = -1 ∨ a w = -1 ∨ ¬ sc' (cd (a v) * 4 + cd (a w)) ≤ 0)) n) n) with
    | false => rfl
    | true => rw [key.mpr h2] at h1; exact h1.symm
theorem s_mark1B (M : Mem) {B k n W : Nat} (hs : shAt M B) (hn : M 0 7 = nI n) (hn5 : n ≤ 5) (hW : colF M B = nI W) (hW6 : W ≤ 60) (hk : k < W) (hc : ∀ a b, a < n → b < k + 1 → okc (M (B + a + 5) b)) : Spec mX6_mark [.ref 0, .int (nI k)] M (Ret (mkF (pmax (fun x => psum (cntF M B k x) n) 4) n (allB (fun i => allB (aspF M B k i) i) n)) M) := by
  rcases hs with ⟨e, h5, _⟩ | ⟨e, h5, _⟩
  · subst e; exact s_mark1_35 M (by rw [h5]; exact sh35) hn hn5 hW hW6 hk hc
  · subst e; exact s_mark1_37 M (by rw [h5]; exact sh37) hn hn5 hW hW6 hk hc
theorem s_mark0B (M : Mem) {B : Nat} {k : Int32} (hs : shAt M B) (hno : ¬ (¬ k < 0 ∧ k < colF M B)) : Spec mX6_mark [.ref 0, .int k] M (Ret (nI 32) M) := by
  rcases hs with ⟨e, h5, _⟩ | ⟨e, h5, _⟩
  · subst e; exact s_mark0_35 M (by rw [h5]; exact sh35) hno
  · subst e; exact s_mark0_37 M (by rw [h5]; exact sh37) hno
theorem tw_mark {M : Mem} (k : Int32) (h : Inv M) : Two mX6_mark mX7_mark [.ref 0, .int k] [.ref 72, .int k] M := by
  have hI := h
  obtain ⟨n, tl, B, ln, s, r1, r2, r3, r4⟩ := h
  have hn5 := s.1
  rcases r4 with ⟨c1, c2⟩ | ⟨c1, c2, W, ws, y, r, c3⟩
  · refine two_ret (s_mark0B M r1 (fun z => z.1 ?_)) (s_mmark0 M (fun z => z.1 (by rw [r3]; exact c1))) hI
    have := z.2
    rw [col_not c1] at this
    exact this
  · have hW := y.1.1
    by_cases d : ¬ k < 0 ∧ ¬ nI W ≤ k
    · obtain ⟨b, hb, eb⟩ := nat_of (by omega) d.1 d.2
      subst eb
      have ok : ∀ a, a < n → okc (M (B + a + 5) b) := fun a ha => (y.1.2 a ha).2.1 b hb
      have er : ∀ a, a < n → M 89 (60 * a + b) = M (B + a + 5) b := fun a ha => r.2.1 a b ha hb
      have p1 := s_mark1B M (k := b) r1 s.2.1 hn5 (col_laid c1 c2 y) hW hb (fun a c ha hc => (y.1.2 a ha).2.1 c (by omega))
      have p2 := s_mmark1 M (k := b) (by rw [r3]; exact c1) s.2.2.1 hn5 r.1 hW hb (fun a ha => by rw [er a ha]; exact ok a ha)
      have em : pmax (fun v => psum (mcF M b v) n) n = pmax (fun x => psum (cntF M B b x) n) 4 := by
        have q := most_eq (a := fun i => M 89 (60 * i + b)) (n := n) (fun i hi => by show okc (M 89 (60 * i + b)); rw [er i hi]; exact ok i hi)
        have q2 : (fun x => psum (cntF M B b x) n) = (fun x => psum (fun i => if M 89 (60 * i + b) = nI x then (1 : Int32) else 0) n) := funext (fun x => psum_congr (fun i hi => by unfold cntF; rw [er i hi]))
        rw [q2]
        exact q.symm
      rw [em] at p2
      by_cases e1 : n = 1
      · subst e1
        have ng : ¬ M (B + 0 + 5) b = -1 := ncnt_inv W (by rw [(y.1.2 0 (by omega)).2.2, ← c3 rfl]) b hb
        have m1 : pmax (fun x => psum (cntF M B b x) 1) 4 = nI 1 := by
          rw [← em]
          have e : mcF M b 0 0 = 1 := by unfold mcF; rw [er 0 (by omega)]; exact if_pos ⟨ng, rfl⟩
          show (if (0 : Int32) < 0 + mcF M b 0 0 then 0 + mcF M b 0 0 else 0) = nI 1
          rw [e]
          decide +kernel
        rw [m1] at p1 p2
        unfold mkF at p1 p2
        rw [if_pos rfl] at p1 p2
        exact two_ret p1 p2 hI
      · have ec := colon_eq (a := fun i => M 89 (60 * i + b)) (sc := M 3) (sc' := M 77) (n := n) (by omega) (fun i hi => by show okc (M 89 (60 * i + b)); rw [er i hi]; exact ok i hi) s.2.2.2.2.2.1 (fun k hk => (s.2.2.2.1.2.1 k hk).1)
        have e2 : allB (fun i => allB (aspF M B b i) i) n = (!(anyB (mgF M b) n) && allB (fun v => allB (maF M b v) n) n) := by
          refine Eq.trans ?_ ec
          have : ∀ (p q : Nat → Bool) (n : Nat), (∀ i, i < n → p i = q i) → allB p n = allB q n := by
            intro p q n
            induction n with
            | zero => intro _; rfl
            | succ n ih => intro h; rw [allB, allB, ih (fun i hi => h i (by omega)), h n (by omega)]
          refine this _ _ _ (fun i hi => this _ _ _ (fun j hj => ?_))
          unfold aspF
          rw [er i hi, er j (by omega)]
        rw [← e2] at p2
        exact two_ret p1 p2 hI
    · refine two_ret (s_mark0B M r1 (fun z => d ⟨z.1, by have := z.2; rw [col_laid c1 c2 y] at this; exact Int32.not_le.mpr this⟩)) (s_mmark0 M (fun z => d ⟨z.2.1, by have := z.2.2; rw [r.1] at this; exact Int32.not_le.mpr this⟩)) hI
