/-! the distances are from 0 to 1000, and the same here and there -/
theorem psum_ind (P : Nat → Prop) [DecidablePred P] : ∀ m, psum (fun k => if P k then (1 : Int32) else 0) m = nI (wsum (fun k => if P k then 1 else 0) m) := by
  intro m
  rw [← psum_nI]
  refine psum_congr (fun k _ => ?_)
  by_cases c : P k
  · rw [if_pos c, if_pos c]; exact n1_lit.symm
  · rw [if_neg c, if_neg c]; exact nI_0.symm
theorem wsum_ncnt {P : Nat → Prop} [DecidablePred P] {f : Nat → Int32} {g : Int32} : ∀ m, (∀ k, k < m → P k → ¬ f k = g) → wsum (fun k => if P k then 1 else 0) m ≤ ncnt f g m := by
  intro m
  induction m with
  | zero => intro _; exact Nat.le_refl 0
  | succ m ih =>
    intro h
    have i := ih (fun k hk => h k (by omega))
    rw [wsum, ncnt]
    by_cases c : P m
    · rw [if_pos c, if_neg (h m (by omega) c)]; omega
    · rw [if_neg c]; split <;> omega
theorem wsum_comm (f : Nat → Nat → Nat) (n m : Nat) : wsum (fun i => wsum (fun j => f i j) m) n = wsum (fun j => wsum (fun i => f i j) n) m := by
  induction n with
  | zero =>
    induction m with
    | zero => rfl
    | succ m ih => exact ih
  | succ n ih =>
    rw [wsum, ih]
    clear ih
    induction m with
    | zero => rfl
    | succ m ih2 => rw [wsum, wsum, wsum, wsum, ← ih2]; omega
theorem wsum_le {f g : Nat → Nat} : ∀ m, (∀ k, k < m → f k ≤ g k) → wsum f m ≤ wsum g m := by
  intro m
  induction m with
  | zero => intro _; exact Nat.le_refl 0
  | succ m ih => intro h; rw [wsum, wsum]; have := ih (fun k hk => h k (by omega)); have := h m (by omega); omega
theorem wsum_c1 : ∀ m, wsum (fun _ => 1) m = m := by
  intro m
  induction m with
  | zero => rfl
  | succ m ih => rw [wsum, ih]
/-- how often the letters x, y stand side by side among the first m letters of a word -/
def tcN (L : Nat → Nat) (m x y : Nat) : Nat := wsum (fun k => if L k = x ∧ L (k + 1) = y then 1 else 0) (m - 1)
theorem tcN_sum {L : Nat → Nat} {m : Nat} (h : ∀ k, k < m → L k < 4) : wsum (fun x => wsum (fun y => tcN L m x y) 4) 4 = m - 1 := by
  have e1 : ∀ x, wsum (fun y => tcN L m x y) 4 = wsum (fun k => wsum (fun y => if L k = x ∧ L (k + 1) = y then 1 else 0) 4) (m - 1) := fun x => wsum_comm (fun y k => if L k = x ∧ L (k + 1) = y then 1 else 0) 4 (m - 1)
  have e2 : wsum (fun x => wsum (fun y => tcN L m x y) 4) 4 = wsum (fun x => wsum (fun k => wsum (fun y => if L k = x ∧ L (k + 1) = y then 1 else 0) 4) (m - 1)) 4 := wsum_congr (fun x _ => e1 x)
  rw [e2, wsum_comm (fun x k => wsum (fun y => if L k = x ∧ L (k + 1) = y then 1 else 0) 4) 4 (m - 1)]
  have e3 : wsum (fun k => wsum (fun x => wsum (fun y => if L k = x ∧ L (k + 1) = y then 1 else 0) 4) 4) (m - 1) = wsum (fun _ => 1) (m - 1) := wsum_congr (fun k hk => by
    have h1 := h k (by omega)
    have h2 := h (k + 1) (by omega)
    generalize L k = a at *
    generalize L (k + 1) = b at *
    exact (by decide : ∀ a, a < 4 → ∀ b, b < 4 → wsum (fun x => wsum (fun y => if a = x ∧ b = y then 1 else 0) 4) 4 = 1) a h1 b h2)
  rw [e3, wsum_c1]
/-- pairs of letters that two words have in common -/
def tsN (L K : Nat → Nat) (m l : Nat) : Nat := wsum (fun x => wsum (fun y => min (tcN L m x y) (tcN K l x y)) 4) 4
theorem tsN_le {L K : Nat → Nat} {m l : Nat} (h1 : ∀ k, k < m → L k < 4) (h2 : ∀ k, k < l → K k < 4) : tsN L K m l ≤ min m l - 1 := by
  have a : tsN L K m l ≤ m - 1 := by
    rw [← tcN_sum h1]
    exact wsum_le 4 (fun x _ => wsum_le 4 (fun y _ => Nat.min_le_left _ _))
  have b : tsN L K m l ≤ l - 1 := by
    rw [← tcN_sum h2]
    exact wsum_le 4 (fun x _ => wsum_le 4 (fun y _ => Nat.min_le_right _ _))
  omega
theorem tsN_sym {L K : Nat → Nat} {m l : Nat} : tsN L K m l = tsN K L l m := wsum_congr (fun x _ => wsum_congr (fun y _ => Nat.min_comm _ _))
theorem tcN_le (L : Nat → Nat) (m x y : Nat) : tcN L m x y ≤ m := by
  unfold tcN
  have h : wsum (fun k => if L k = x ∧ L (k + 1) = y then 1 else 0) (m - 1) ≤ wsum (fun _ => 1) (m - 1) := wsum_le _ (fun k _ => by split <;> omega)
  rw [wsum_c1] at h
  omega
theorem cd_nI {a : Nat} (h : a < 4) : cd (nI a) = a := by unfold cd; exact nI_clamp (by omega)
/-- the letters of a word -/
theorem letter_eq {x : Int32} (h : ∃ a, a < 4 ∧ x = nI a) : x = nI (cd x) ∧ cd x < 4 := by
  obtain ⟨a, ha, e⟩ := h
  rw [e, cd_nI ha]; exact ⟨rfl, ha⟩
theorem tup_tc {M : Mem} {i l : Nat} (hw : wordOK M i l) {x y : Nat} (hx : x < 4) (hy : y < 4) : psum (tupF M (41 + i) (nI x) (nI y)) (l - 1) = nI (tcN (fun k => cd (M (41 + i + 5) k)) l x y) := by
  unfold tcN
  rw [← psum_ind]
  refine psum_congr (fun k hk => ?_)
  have h1 := letter_eq (hw.2.2.2 k (by omega))
  have h2 := letter_eq (hw.2.2.2 (k + 1) (by omega))
  unfold tupF
  have e1 : M (41 + i + 5) k = nI x ↔ cd (M (41 + i + 5) k) = x := ⟨fun z => by rw [z, cd_nI hx], fun z => by rw [h1.1, z]⟩
  have e2 : M (41 + i + 5) (k + 1) = nI y ↔ cd (M (41 + i + 5) (k + 1)) = y := ⟨fun z => by rw [z, cd_nI hy], fun z => by rw [h2.1, z]⟩
  by_cases c : M (41 + i + 5) k = nI x ∧ M (41 + i + 5) (k + 1) = nI y
  · rw [if_pos c, if_pos ⟨e1.mp c.1, e2.mp c.2⟩]
  · rw [if_neg c, if_neg (fun z => c ⟨e1.mpr z.1, e2.mpr z.2⟩)]
theorem tin_tc {M : Mem} {i l : Nat} (hw : mwordOK M i l) {x y : Nat} (hx : x < 4) (hy : y < 4) : psum (tinF M i (4 * x + y)) (l - 1) = nI (tcN (fun k => cd (M 74 (12 * i + k))) l x y) := by
  unfold tcN
  rw [← psum_ind]
  refine psum_congr (fun k hk => ?_)
  have h1 := letter_eq (hw.2.2.2 k (by omega))
  have h2 := letter_eq (hw.2.2.2 (k + 1) (by omega))
  unfold tinF
  show (if nI 4 * M 74 (12 * i + k) + M 74 (12 * i + (k + 1)) = nI (4 * x + y) then (1 : Int32) else 0) = if cd (M 74 (12 * i + k)) = x ∧ cd (M 74 (12 * i + (k + 1))) = y then 1 else 0
  generalize M 74 (12 * i + k) = u at *
  generalize M 74 (12 * i + (k + 1)) = v at *
  have e : nI 4 * u + v = nI (4 * x + y) ↔ (cd u = x ∧ cd v = y) := by
    rw [h1.1, h2.1, pk_mul, nI_add, nI_eq (by omega) (by omega), cd_nI h1.2, cd_nI h2.2]
    omega
  by_cases c : nI 4 * u + v = nI (4 * x + y)
  · rw [if_pos c, if_pos (e.mp c)]
  · rw [if_neg c, if_neg (fun z => c (e.mpr z))]
theorem min_lt {a b : Nat} (ha : a < 1000) (hb : b < 1000) : (if nI b < nI a then nI b else nI a) = nI (min a b) := min_nI ha hb
theorem tuples_ts {M : Mem} {i j li lj : Nat} (hi : wordOK M i li) (hj : wordOK M j lj) : psum (fun x => psum (minF M (41 + i) (41 + j) li lj x) 4) 4 = nI (tsN (fun k => cd (M (41 + i + 5) k)) (fun k => cd (M (41 + j + 5) k)) li lj) := by
  unfold tsN
  rw [← psum_nI]
  refine psum_congr (fun x hx => ?_)
  rw [← psum_nI]
  refine psum_congr (fun y hy => ?_)
  unfold minF
  rw [tup_tc hi hx hy, tup_tc hj hx hy]
  have l1 := tcN_le (fun k => cd (M (41 + i + 5) k)) li x y
  have l2 := tcN_le (fun k => cd (M (41 + j + 5) k)) lj x y
  have b1 := hi.2.2.1
  have b2 := hj.2.2.1
  exact min_nI (by omega) (by omega)
theorem psum_16 (f : Nat → Int32) : psum f 16 = psum (fun x => psum (fun y => f (4 * x + y)) 4) 4 := by
  simp [psum, Int32.add_assoc]
theorem shared_ts {M : Mem} {i j li lj : Nat} (hi : mwordOK M i li) (hj : mwordOK M j lj) : psum (shF M i j li lj) 16 = nI (tsN (fun k => cd (M 74 (12 * i + k))) (fun k => cd (M 74 (12 * j + k))) li lj) := by
  unfold tsN
  rw [psum_16, ← psum_nI]
  refine psum_congr (fun x hx => ?_)
  rw [← psum_nI]
  refine psum_congr (fun y hy => ?_)
  unfold shF
  rw [tin_tc hi hx hy, tin_tc hj hx hy]
  have l1 := tcN_le (fun k => cd (M 74 (12 * i + k))) li x y
  have l2 := tcN_le (fun k => cd (M 74 (12 * j + k))) lj x y
  have b1 := hi.2.2.1
  have b2 := hj.2.2.1
  generalize tcN (fun k => cd (M 74 (12 * i + k))) li x y = a at *
  generalize tcN (fun k => cd (M 74 (12 * j + k))) lj x y = b at *
  by_cases e : b ≤ a
  · rw [if_pos ((nI_leI (by omega) (by omega)).mpr e), Nat.min_eq_right e]
  · rw [if_neg (fun z => e ((nI_leI (by omega) (by omega)).mp z)), Nat.min_eq_left (by omega)]
theorem tsN_congr {L L' K K' : Nat → Nat} {m l : Nat} (h1 : ∀ k, k < m → L k = L' k) (h2 : ∀ k, k < l → K k = K' k) : tsN L K m l = tsN L' K' m l := by
  unfold tsN tcN
  refine wsum_congr (fun x _ => wsum_congr (fun y _ => ?_))
  rw [wsum_congr (m := m - 1) (fun k hk => by rw [h1 k (by omega), h1 (k + 1) (by omega)]), wsum_congr (m := l - 1) (fun k hk => by rw [h2 k (by omega), h2 (k + 1) (by omega)])]
/-- a distance of two words out of the letters that they share -/
def dOf (s m : Nat) : Nat := 1000 - 1000 * s / m
theorem share_d {s m : Nat} (hm : 1 ≤ m) (hm2 : m ≤ 12) (hs : s ≤ m) : nI 1000 - shareF (nI s) (nI m) = nI (dOf s m) ∧ nI 1000 - nI 1000 * nI s / nI m = nI (dOf s m) := by
  have q : 1000 * s / m ≤ 1000 := by
    refine Nat.div_le_of_le_mul ?_
    rw [Nat.mul_comm m]
    exact Nat.mul_le_mul_left _ hs
  have e : nI 1000 - nI 1000 * nI s / nI m = nI (dOf s m) := by
    rw [pk_mul, nI_div (by omega) (by omega), nI_sub q]
    rfl
  refine ⟨?_, e⟩
  unfold shareF
  rw [if_pos ((nI_leI (by omega) (by omega)).mpr hm)]
  exact e
theorem dOf_le (s m : Nat) : dOf s m ≤ 1000 := Nat.sub_le _ _
/-! the columns of two merged words with the same letter -/
def sameN (F : Mem) (t u n : Nat) : Nat := wsum (fun k => if F (t + 5) k ≠ -1 ∧ F (t + 5) k = F (u + 5) k then 1 else 0) n
theorem same_N {F : Mem} {t u n : Nat} : psum (sameF F t u) n = nI (sameN F t u n) := psum_ind _ n
theorem same_sym {F : Mem} {t u n : Nat} : sameN F t u n = sameN F u t n := wsum_congr (fun k _ => by
  by_cases c : F (t + 5) k ≠ -1 ∧ F (t + 5) k = F (u + 5) k
  · rw [if_pos c, if_pos ⟨by rw [← c.2]; exact c.1, c.2.symm⟩]
  · rw [if_neg c, if_neg (fun z => c ⟨by rw [← z.2]; exact z.1, z.2.symm⟩)])
theorem same_le {C F : Mem} {B lo hi p q n : Nat} {v : Nat} {r : Option Value} (hlo : lo < 5) (hhi : hi < 5) (h : uniP C B (bit lo) (bit hi) v p q r F) (hn : F (B + lo) 1 = nI n) (hn6 : n ≤ 60) (hpq : p + q ≤ 60) : sameN F (B + lo) (B + hi) n ≤ min p q := by
  obtain ⟨R, T, m, u1, u2, u3, u4, u5, u6, u7, u8, u9⟩ := h
  have a1 := u7 lo hlo ((hb_bit_ne hlo hlo).mpr rfl)
  have a2 := u8 hi hhi ((hb_bit_ne hhi hhi).mpr rfl)
  have em : n = m := by
    have := hn.symm.trans a1.1
    have h5 := u5.1
    exact (nI_eq (by omega) (by omega)).mp this
  subst em
  have e1 := u5.2.1
  have e2 := u5.2.2.1
  rw [wst_P] at e1
  rw [wst_Q] at e2
  have b1 : sameN F (B + lo) (B + hi) n ≤ p := by
    rw [← e1]
    refine wsum_ncnt n (fun k hk hP e => ?_)
    have := a1.2 k hk
    rw [if_pos e] at this
    exact hP.1 this
  have b2 : sameN F (B + lo) (B + hi) n ≤ q := by
    rw [same_sym, ← e2]
    refine wsum_ncnt n (fun k hk hP e => ?_)
    have := a2.2 k hk
    rw [if_pos e] at this
    exact hP.1 this
  omega
/-- the words of the class (memory M) and of the reference (memory M') are the same, and so are the costs -/
def sameW (M M' : Mem) (n : Nat) (ln : Nat → Nat) : Prop := (∀ i, i < n → wordOK M i (ln i) ∧ mwordOK M' i (ln i) ∧ ∀ k, k < ln i → M (41 + i + 5) k = M' 74 (12 * i + k)) ∧ (∀ k, k < 16 → M' 77 k = M 3 k ∧ sm 20 (M 3 k)) ∧ M' 72 6 = M 2 1 ∧ M' 72 7 = M 2 2 ∧ ps 20 (M 2 1) ∧ ps 20 (M 2 2) ∧ (∀ a, a < 5 → M 97 a = 1) ∧ (M' 72 8 = 0 ↔ M 0 8 = 0)
/-- dn is the class's distance of the words lo < hi, as memory M holds them -/
def distW (M : Mem) (lo hi a b dn : Nat) : Prop :=
  (M 0 8 = 0 ∧ ∃ (B : Nat) (C F : Mem) (r0 : Option Value) (n : Nat), (∀ k, k < a → C (B + lo + 5) k = M (41 + lo + 5) k) ∧ (∀ k, k < b → C (B + hi + 5) k = M (41 + hi + 5) k) ∧ C 2 = M 2 ∧ C 3 = M 3 ∧ C 97 = M 97 ∧ uniP C B (bit lo) (bit hi) 97 a b r0 F ∧ F (B + lo) 1 = nI n ∧ n ≤ 24 ∧ dn = dOf (sameN F (B + lo) (B + hi) n) (min a b)) ∨
  (¬ M 0 8 = 0 ∧ dn = if min a b = 1 then 1000 else dOf (tsN (fun k => cd (M (41 + lo + 5) k)) (fun k => cd (M (41 + hi + 5) k)) a b) (min a b - 1))
theorem tup_d {t m : Nat} (hm : 1 ≤ m) (hm2 : m ≤ 12) (ht : t ≤ m - 1) : nI 1000 - shareF (nI t) (nI m - nI 1) = nI (if m = 1 then 1000 else dOf t (m - 1)) ∧ (if m = 1 then nI 1000 else nI 1000 - nI 1000 * nI t / (nI m - nI 1)) = nI (if m = 1 then 1000 else dOf t (m - 1)) := by
  rw [nI_sub hm]
  by_cases e : m = 1
  · subst e
    rw [if_pos rfl, if_pos rfl]
    refine ⟨?_, rfl⟩
    unfold shareF
    rw [if_neg (by decide +kernel)]
    decide +kernel
  · rw [if_neg e, if_neg e]
    exact share_d (by omega) (by omega) ht
theorem dist_class {M F : Mem} {B i j lo hi li lj a b : Nat} {r : Option Value} (hB : B = 51 ∨ B = 61) (hi5 : i < 5) (hj5 : j < 5) (ho : ord2 i j lo hi li lj a b) (hi1 : wordOK M i li) (hj1 : wordOK M j lj) (h : cdP M B i j lo hi li lj a b r F) : ∃ dn, dn ≤ 1000 ∧ r = some (.int (nI dn)) ∧ distW M lo hi a b dn := by
  have hmin : min li lj = min a b := by unfold ord2 at ho; omega
  have hl5 : lo < 5 ∧ hi < 5 := by unfold ord2 at ho; omega
  have b1 := hi1.2.1
  have b2 := hi1.2.2.1
  have b3 := hj1.2.1
  have b4 := hj1.2.2.1
  obtain ⟨d, hr, h⟩ := h
  rcases h with ⟨h8, r0, n, ⟨C, c1, c2, c3, c4, cz, hu⟩, hn, hn24, hd⟩ | ⟨h8, hF, hd⟩
  · have hnl : F (B + lo) 1 = nI n := by
      rcases ho with ⟨_, e1, e2, _, _⟩ | ⟨_, e1, e2, _, _⟩
      · rw [e1]; exact hn
      · obtain ⟨R, T, m, u1, u2, u3, u4, u5, u6, u7, u8, u9⟩ := hu
        have a1 := (u7 lo hl5.1 ((hb_bit_ne hl5.1 hl5.1).mpr rfl)).1
        have a2 := (u8 hi hl5.2 ((hb_bit_ne hl5.2 hl5.2).mpr rfl)).1
        rw [a1, ← a2, e2]; exact hn
    have hab : a + b ≤ 24 := by unfold ord2 at ho; omega
    have hs := same_le hl5.1 hl5.2 hu hnl (by omega) (by omega)
    have es : psum (sameF F (B + i) (B + j)) n = nI (sameN F (B + lo) (B + hi) n) := by
      rw [same_N]
      rcases ho with ⟨_, e1, e2, _, _⟩ | ⟨_, e1, e2, _, _⟩
      · rw [e1, e2]
      · rw [e1, e2, same_sym]
    refine ⟨dOf (sameN F (B + lo) (B + hi) n) (min a b), dOf_le _ _, ?_, Or.inl ⟨h8, B, C, F, r0, n, c2, c4, cz 2 (by omega) (by omega) (by omega) (by omega), cz 3 (by omega) (by omega) (by omega) (by omega), cz 97 (by omega) (by omega) (by omega) (by omega), hu, hnl, hn24, rfl⟩⟩
    rw [hr, hd, es, hmin, (share_d (by omega) (by omega) hs).1]
  · refine ⟨_, ?_, ?_, Or.inr ⟨h8, rfl⟩⟩
    · split
      · exact Nat.le_refl _
      · exact dOf_le _ _
    · have et : psum (fun x => psum (minF M (41 + i) (41 + j) li lj x) 4) 4 = nI (tsN (fun k => cd (M (41 + lo + 5) k)) (fun k => cd (M (41 + hi + 5) k)) a b) := by
        rw [tuples_ts hi1 hj1]
        rcases ho with ⟨_, e1, e2, e3, e4⟩ | ⟨_, e1, e2, e3, e4⟩
        · rw [e1, e2, e3, e4]
        · rw [e1, e2, e3, e4, tsN_sym]
      have ht : tsN (fun k => cd (M (41 + lo + 5) k)) (fun k => cd (M (41 + hi + 5) k)) a b ≤ min a b - 1 := by
        rcases ho with ⟨_, e1, e2, e3, e4⟩ | ⟨_, e1, e2, e3, e4⟩
        · rw [e1, e2, e3, e4]; exact tsN_le (fun k hk => (letter_eq (hi1.2.2.2 k hk)).2) (fun k hk => (letter_eq (hj1.2.2.2 k hk)).2)
        · rw [e1, e2, e3, e4]; exact tsN_le (fun k hk => (letter_eq (hj1.2.2.2 k hk)).2) (fun k hk => (letter_eq (hi1.2.2.2 k hk)).2)
      rw [hr, hd, et, hmin, (tup_d (by omega) (by omega) ht).1]
theorem dist_model {M M' F : Mem} {n i j lo hi : Nat} {ln : Nat → Nat} {r : Option Value} {dn : Nat} (hn5 : n ≤ 5) (hin : i < n) (hjn : j < n) (hW : sameW M M' n ln) (ho : ord2 i j lo hi (ln i) (ln j) (ln lo) (ln hi)) (hd : distW M lo hi (ln lo) (ln hi) dn) (h : mdP M' i j lo hi (ln i) (ln j) (ln lo) (ln hi) r F) : r = some (.int (nI dn)) := by
  have hlo : lo < n ∧ hi < n ∧ lo ≠ hi := by unfold ord2 at ho; omega
  have hmin : min (ln i) (ln j) = min (ln lo) (ln hi) := by unfold ord2 at ho; omega
  obtain ⟨w1, w2, w3, w4, w5, w6, w7, w8⟩ := hW
  have W1 := w1 lo hlo.1
  have W2 := w1 hi hlo.2.1
  have b1 := W1.1.2.1
  have b2 := W1.1.2.2.1
  have b3 := W2.1.2.1
  have b4 := W2.1.2.2.1
  obtain ⟨d, hr, h⟩ := h
  rcases h with ⟨h8, r0, m, hmw, hm, hm24, hd'⟩ | ⟨h8, hF, hd'⟩
  · rcases hd with ⟨g8, B, C, F1, r1, k, c2, c4, e2, e3, e97, hu, hk, hk24, hdn⟩ | ⟨g8, _⟩
    · obtain ⟨D, d25, d26, d27, d28, d90, d91, d39, d72, dz, hmg⟩ := hmw
      have hl5 : lo < 5 ∧ hi < 5 := by omega
      have okP : ∀ a k, a < 5 → ¬ hb (bit lo) a = 0 → k < ln lo → okc (C (B + a + 5) k) := fun a k ha hx hk => by
        rw [(hb_bit_ne hl5.1 ha).mp hx, c2 k hk]; exact Or.inr (W1.1.2.2.2 k hk)
      have okQ : ∀ a k, a < 5 → ¬ hb (bit hi) a = 0 → k < ln hi → okc (C (B + a + 5) k) := fun a k ha hx hk => by
        rw [(hb_bit_ne hl5.2 ha).mp hx, c4 k hk]; exact Or.inr (W2.1.2.2.2 k hk)
      have hg : grp C D B (bit lo) (bit hi) 97 (ln lo) (ln hi) := by
        refine ⟨d25, d26, fun a k ha hx hk => ?_, fun a k ha hx hk => ?_, fun a ha _ => ?_, fun k hk => ?_, ?_, ?_⟩
        · rw [(hb_bit_ne hl5.1 ha).mp hx, d90 k hk, c2 k hk]; exact (W1.2.2 k hk).symm
        · rw [(hb_bit_ne hl5.2 ha).mp hx, d91 k hk, c4 k hk]; exact (W2.2.2 k hk).symm
        · rw [d39 a ha, e97, w7 a ha]
        · rw [dz 77 (by decide) (by decide) (by decide) (by decide), e3]; exact (w2 k hk).1
        · rw [d72 6 (by omega), e2]; exact w3
        · rw [d72 7 (by omega), e2]; exact w4
      have hdat : dataOK C 97 := eq_dataOK (M := M) (fun a ha => by rw [e97]; exact w7 a ha) (fun k hk => by rw [e3]; exact (w2 k hk).2) (by rw [e2]; exact w5) (by rw [e2]; exact w6)
      obtain ⟨_, x, x1, x2, x3, x4, x5⟩ := merged_same hdat hg (by omega) okP okQ (fun a ha h1 h2 => hlo.2.2 (((hb_bit_ne hl5.1 ha).mp h1).symm.trans ((hb_bit_ne hl5.2 ha).mp h2))) hu hmg
      have y1 := x5 lo hl5.1 (Or.inl ((hb_bit_ne hl5.1 hl5.1).mpr rfl))
      have y2 := x5 hi hl5.2 (Or.inr ((hb_bit_ne hl5.2 hl5.2).mpr rfl))
      have ekx : k = x := (nI_eq (by omega) (by omega)).mp (hk.symm.trans y1.1)
      have emx : m = x := (nI_eq (by omega) (by omega)).mp (hm.symm.trans x4)
      subst ekx emx
      have es : psum (msmF F lo hi) m = nI (sameN F1 (B + lo) (B + hi) m) := by
        rw [← same_N]
        refine psum_congr (fun c hc => ?_)
        unfold msmF sameF
        rw [(y1.2 c hc).1, (y2.2 c hc).1]
      have hs := same_le hl5.1 hl5.2 hu y1.1 (by omega) (by omega)
      rw [hr, hd', hmin, es, (share_d (by omega) (by omega) hs).2, hdn]
    · exact absurd (w8.mp h8) g8
  · rcases hd with ⟨g8, _⟩ | ⟨g8, hdn⟩
    · exact absurd (w8.mpr g8) h8
    · have et : psum (shF M' i j (ln i) (ln j)) 16 = nI (tsN (fun k => cd (M (41 + lo + 5) k)) (fun k => cd (M (41 + hi + 5) k)) (ln lo) (ln hi)) := by
        rw [shared_ts (w1 i hin).2.1 (w1 j hjn).2.1]
        have c := fun x (hx : x < n) => fun k (hk : k < ln x) => (show cd (M' 74 (12 * x + k)) = cd (M (41 + x + 5) k) by rw [(w1 x hx).2.2 k hk])
        rw [tsN_congr (c i hin) (c j hjn)]
        rcases ho with ⟨_, e1, e2, e3, e4⟩ | ⟨_, e1, e2, e3, e4⟩
        · rw [e1, e2]
        · rw [e1, e2, tsN_sym]
      have ht : tsN (fun k => cd (M (41 + lo + 5) k)) (fun k => cd (M (41 + hi + 5) k)) (ln lo) (ln hi) ≤ min (ln lo) (ln hi) - 1 := tsN_le (fun k hk => (letter_eq (W1.1.2.2.2 k hk)).2) (fun k hk => (letter_eq (W2.1.2.2.2 k hk)).2)
      rw [hr, hd', et, hmin, (tup_d (by omega) (by omega) ht).2, hdn]
theorem distW_congr {M N : Mem} {lo hi a b dn : Nat} (h8 : M 0 8 = N 0 8) (h2 : M 2 = N 2) (h3 : M 3 = N 3) (h97 : M 97 = N 97) (hl : M (41 + lo + 5) = N (41 + lo + 5)) (hh : M (41 + hi + 5) = N (41 + hi + 5)) (h : distW M lo hi a b dn) : distW N lo hi a b dn := by
  unfold distW at *
  rw [h8, h2, h3, h97, hl, hh] at h
  exact h
