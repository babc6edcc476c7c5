/-! Merger.unite -/
/-- the steps of the walk -/
def stF (T : Mem) (p q : Nat) : Nat → Int32 := fun k => nI (wst T p q (k + 1)).2.2
theorem ncnt_congr {f g : Nat → Int32} {x : Int32} {n : Nat} (h : ∀ k, k < n → f k = g k) : ncnt f x n = ncnt g x n := by
  induction n with
  | zero => rfl
  | succ n ih => rw [ncnt, ncnt, ih (fun k hk => h k (by omega)), h n (by omega)]
theorem wst_le (T : Mem) (p q n : Nat) : (wst T p q n).2.2 ≤ 2 := by
  cases n with
  | zero => exact Nat.zero_le 2
  | succ n => exact chV_le _ _ _ _ _
theorem wst_P (T : Mem) (p q n : Nat) : (wst T p q n).1 = ncnt (stF T p q) (nI 2) n := by
  induction n with
  | zero => rfl
  | succ n ih =>
    rw [ncnt, ← ih]
    show (wst T p q n).1 + _ = _
    congr 1
    unfold stF
    have h := wst_le T p q (n + 1)
    have e : nI (wst T p q (n + 1)).2.2 = nI 2 ↔ (wst T p q (n + 1)).2.2 = 2 := nI_eq (by omega) (by omega)
    by_cases c : (wst T p q (n + 1)).2.2 = 2
    · rw [if_pos (e.mpr c)]; exact if_pos c
    · rw [if_neg (fun z => c (e.mp z))]; exact if_neg c
theorem wst_Q (T : Mem) (p q n : Nat) : (wst T p q n).2.1 = ncnt (stF T p q) (nI 1) n := by
  induction n with
  | zero => rfl
  | succ n ih =>
    rw [ncnt, ← ih]
    show (wst T p q n).2.1 + _ = _
    congr 1
    unfold stF
    have h := wst_le T p q (n + 1)
    have e : nI (wst T p q (n + 1)).2.2 = nI 1 ↔ (wst T p q (n + 1)).2.2 = 1 := nI_eq (by omega) (by omega)
    by_cases c : (wst T p q (n + 1)).2.2 = 1
    · rw [if_pos (e.mpr c)]; exact if_pos c
    · rw [if_neg (fun z => c (e.mp z))]; exact if_neg c
/-- the sides as read, and the price of opening -/
def uR (M R : Mem) (B : Nat) (P Q : Int32) (v p q : Nat) : Prop := R 5 2 = psum (whF M P v) 5 ∧ R 8 2 = psum (whF M Q v) 5 ∧ R 5 3 = nI p ∧ R 8 3 = nI q ∧ (∀ k x, k < p → x < 4 → R 6 (k * 4 + x) = psum (letF M B P v k x) 5) ∧ (∀ k, k < p → R 7 k = psum (preF M B P v k) 5) ∧ (∀ k x, k < q → x < 4 → R 9 (k * 4 + x) = psum (letF M B Q v k x) 5) ∧ (∀ k, k < q → R 10 k = psum (preF M B Q v k) 5) ∧ R 4 6 = M 2 1 * R 5 2 * R 8 2 ∧ ∀ z, (z < 4 ∨ 10 < z) → R z = M z
/-- n steps lead to the end, and not fewer -/
def wlk (T : Mem) (p q n : Nat) : Prop := n ≤ p + q ∧ (wst T p q n).1 = p ∧ (wst T p q n).2.1 = q ∧ ∀ k, k < n → ((wst T p q k).1 ≤ p ∧ (wst T p q k).2.1 ≤ q ∧ ((wst T p q k).1 < p ∨ (wst T p q k).2.1 < q))
def uniP (M : Mem) (B : Nat) (P Q : Int32) (v p q : Nat) : Option Value → Mem → Prop := fun r F => ∃ (R T : Mem) (n : Nat), uR M R B P Q v p q ∧ keepT R T ∧ tb T p q (fun _ _ => True) ∧ bnd T p q ∧ wlk T p q n ∧ r = some (.int (T 12 0)) ∧
  (∀ a, a < 5 → ¬ hb P a = 0 → F (B + a) 1 = nI n ∧ ∀ j, j < n → F (B + a + 5) j = if stF T p q j = nI 2 then -1 else M (B + a + 5) (ncnt (stF T p q) (nI 2) j)) ∧
  (∀ a, a < 5 → ¬ hb Q a = 0 → F (B + a) 1 = nI n ∧ ∀ j, j < n → F (B + a + 5) j = if stF T p q j = nI 1 then -1 else M (B + a + 5) (ncnt (stF T p q) (nI 1) j)) ∧
  ∀ z, (z < 4 ∨ 15 < z) → (∀ a, a < 5 → (¬ hb P a = 0 ∨ ¬ hb Q a = 0) → z ≠ B + a ∧ z ≠ B + a + 5) → F z = M z
theorem bnd_keep {R T : Mem} {p q : Nat} (h : keepT R T) (hb : bnd R p q) : bnd T p q := by
  obtain ⟨-, h2, h3⟩ := h
  unfold bnd at *
  rw [h2, h3 2 (by decide) (by omega), h3 7 (by decide) (by omega), h3 8 (by decide) (by omega), h3 10 (by decide) (by omega), h3 5 (by decide) (by omega)]
  exact ⟨fun i j hi hj => by rw [mtF_congr (h3 6 (by decide) (by omega)) (h3 9 (by decide) (by omega)) (h3 3 (by decide) (by omega))]; exact hb.1 i j hi hj, hb.2⟩
theorem l_uni335 {M R T : Mem} {P Q : Int32} {v p q : Nat} (hv : al v = 5) (hv2 : 10 < v) (hp : p ≤ 48) (hq : q ≤ 48) (hpq : p + q ≤ 60) (hroom : (p + 1) * (q + 1) ≤ 925) (hWP : ∀ a, a < 5 → ¬ hb P a = 0 → M (51 + a) 1 = nI p) (hWQ : ∀ a, a < 5 → ¬ hb Q a = 0 → M (51 + a) 1 = nI q) (hdis : ∀ a, a < 5 → ¬ hb P a = 0 → ¬ ¬ hb Q a = 0) (hR : uR M R 51 P Q v p q) (hk : keepT R T) (ht : tb T p q (fun _ _ => True)) (hbT : bnd T p q) : G mX1_unite 97 [some (.ref 4), some (.ref 35), some (.int P), some (.int Q), some (.ref v), none, none] [] T (uniP M 51 P Q v p q) := by
  have hmT : mrg T p q := ⟨(congrFun (hk.2.2 5 (by decide) (by omega)) 3).trans hR.2.2.1, (congrFun (hk.2.2 8 (by decide) (by omega)) 3).trans hR.2.2.2.1, hp, hq, hroom⟩
  refine blk 1 [(.aload_n 0, 0, 0, 0)] [] (by decide +kernel) rfl (pc' := 98) (ls' := [some (.ref 4), some (.ref 35), some (.int P), some (.int Q), some (.ref v), none, none]) (st' := [.ref 4]) (M' := T) rfl ⟨trivial, trivial⟩ ?_
  refine g_callV (s_walk T (p := p) (q := q) hmT hpq (tab_ch hbT (by omega) ht)) ok_X1_unite_X1_walk (by decide +kernel) rfl (c := 1) rfl (by decide) rfl (Nat.le_of_ble_eq_true rfl) (fun r W h => ?_) rfl
  obtain ⟨hr, n, n1, n2, n3, n4, w5, w15, w6, wz⟩ := h
  rw [hr]
  have eS : ∀ g, ncnt (W 15) g n = ncnt (stF T p q) g n := fun g => ncnt_congr (fun k hk => w15 k hk)
  have eW : ∀ z, (z < 4 ∨ 15 < z) → W z = M z := fun z hz => by rw [wz z (by omega) (by omega), hk.2.2 z (by omega) (by omega)]; exact hR.2.2.2.2.2.2.2.2.2 z (by omega)
  show G _ 101 [some (.ref 4), some (.ref 35), some (.int P), some (.int Q), some (.ref v), none, none] [] W _
  refine blk 1 [(.aload_n 1, 0, 0, 0), (.iload_n 2, 0, 0, 0), (.aload_n 0, 0, 0, 0), (.getfield 26, 1, 4, 0), (.aload_n 0, 0, 0, 0), (.getfield 60, 1, 5, 0), (.iconst 2, 0, 0, (nI 2))] [] (by decide +kernel) rfl (pc' := 112) (ls' := [some (.ref 4), some (.ref 35), some (.int P), some (.int Q), some (.ref v), none, none]) (st' := [.int (nI 2), .int (W 4 5), .ref 15, .int P, .ref 35]) (M' := W) rfl ⟨trivial, trivial, trivial, rfl, trivial, rfl, trivial, trivial⟩ ?_
  rw [w5]
  refine g_callV (s_sspread35 W (n := n) (S := P) (g := nI 2) (by omega) (fun a h1 h2 => by rw [eS, ← wst_P, n2, eW _ (by omega)]; exact hWP a h1 h2)) ok_X1_unite_X3_spread (by decide +kernel) rfl (c := 3) rfl (by decide) rfl (Nat.le_of_ble_eq_true rfl) (fun r X h => ?_) rfl
  obtain ⟨hr, x1, x2⟩ := h
  rw [hr]
  have x4 : X 4 = W 4 := x2 4 (fun a _ _ => by omega)
  have x15 : X 15 = W 15 := x2 15 (fun a _ _ => by omega)
  show G _ 115 [some (.ref 4), some (.ref 35), some (.int P), some (.int Q), some (.ref v), none, none] [] X _
  refine blk 1 [(.aload_n 1, 0, 0, 0), (.iload_n 3, 0, 0, 0), (.aload_n 0, 0, 0, 0), (.getfield 26, 1, 4, 0), (.aload_n 0, 0, 0, 0), (.getfield 60, 1, 5, 0), (.iconst 1, 0, 0, (nI 1))] [] (by decide +kernel) rfl (pc' := 126) (ls' := [some (.ref 4), some (.ref 35), some (.int P), some (.int Q), some (.ref v), none, none]) (st' := [.int (nI 1), .int (X 4 5), .ref 15, .int Q, .ref 35]) (M' := X) rfl ⟨trivial, trivial, trivial, rfl, trivial, rfl, trivial, trivial⟩ ?_
  rw [show X 4 5 = nI n by rw [x4]; exact w5]
  refine g_callV (s_sspread35 X (n := n) (S := Q) (g := nI 1) (by omega) (fun a h1 h2 => by rw [x15, eS, ← wst_Q, n3, x2 _ (fun c _ h4 => ⟨fun e => by rw [show a = c by omega] at h2; exact hdis c (by omega) h4 h2, by omega⟩), eW _ (by omega)]; exact hWQ a h1 h2)) ok_X1_unite_X3_spread (by decide +kernel) rfl (c := 3) rfl (by decide) rfl (Nat.le_of_ble_eq_true rfl) (fun r F h => ?_) rfl
  obtain ⟨hr, y1, y2⟩ := h
  rw [hr]
  show G _ 129 [some (.ref 4), some (.ref 35), some (.int P), some (.int Q), some (.ref v), none, none] [] F _
  refine blk 1 [(.aload_n 0, 0, 0, 0), (.getfield 23, 1, 3, 0), (.iconst 0, 0, 0, (nI 0)), (.aaload, 0, 0, 0), (.iconst 0, 0, 0, (nI 0)), (.iaload, 0, 0, 0)] [0, 0] (by decide +kernel) rfl (pc' := 137) (ls' := [some (.ref 4), some (.ref 35), some (.int P), some (.int Q), some (.ref v), none, none]) (st' := [.int (F 12 0)]) (M' := F) rfl ⟨trivial, rfl, trivial, ⟨rfl, (by decide)⟩, trivial, ⟨rfl, (by decide)⟩, trivial⟩ ?_
  refine g_ireturn (by decide +kernel) rfl rfl ⟨R, T, n, hR, hk, ht, hbT, ⟨n1, n2, n3, n4⟩, ?_, fun a h1 h2 => ?_, fun a h1 h2 => ?_, fun z h1 h2 => ?_⟩
  · rw [y2 12 (fun a _ _ => by omega), x2 12 (fun a _ _ => by omega), wz 12 (by decide) (by decide)]
  · have d := x1 a h1 h2
    rw [y2 (51 + a) (fun c _ h4 => ⟨fun e => by rw [show a = c by omega] at h2; exact hdis c (by omega) h2 h4, by omega⟩), y2 (51 + a + 5) (fun c _ h4 => ⟨by omega, fun e => by rw [show a = c by omega] at h2; exact hdis c (by omega) h2 h4⟩)]
    refine ⟨d.1, fun j hj => ?_⟩
    rw [d.2 j hj, w15 j hj, eW (51 + a + 5) (by omega), ncnt_congr (g := stF T p q) (fun k hk => w15 k (by omega))]; rfl
  · have d := y1 a h1 h2
    refine ⟨d.1, fun j hj => ?_⟩
    rw [d.2 j hj, x15, w15 j hj, x2 (51 + a + 5) (fun c _ h4 => ⟨by omega, fun e => by rw [show a = c by omega] at h2; exact hdis c (by omega) h4 h2⟩), eW (51 + a + 5) (by omega), ncnt_congr (g := stF T p q) (fun k hk => w15 k (by omega))]; rfl
  · rw [y2 z (fun c h3 h4 => h2 c h3 (Or.inr h4)), x2 z (fun c h3 h4 => h2 c h3 (Or.inl h4)), eW z h1]
theorem s_unite35 (M : Mem) {P Q : Int32} {v p q : Nat} (hv : al v = 5) (hv2 : 10 < v) (hp : p ≤ 48) (hq : q ≤ 48) (hpq : p + q ≤ 60) (hroom : (p + 1) * (q + 1) ≤ 925) (hWP : ∀ a, a < 5 → ¬ hb P a = 0 → M (51 + a) 1 = nI p) (hWQ : ∀ a, a < 5 → ¬ hb Q a = 0 → M (51 + a) 1 = nI q) (hdis : ∀ a, a < 5 → ¬ hb P a = 0 → ¬ ¬ hb Q a = 0) (hcP : ∀ a k, a < 5 → ¬ hb P a = 0 → k < p → okc (M (51 + a + 5) k)) (hcQ : ∀ a k, a < 5 → ¬ hb Q a = 0 → k < q → okc (M (51 + a + 5) k)) (hnP : ∃ a, a < 5 ∧ ¬ hb P a = 0) (hnQ : ∃ a, a < 5 ∧ ¬ hb Q a = 0) (hbd : ∀ R, uR M R 51 P Q v p q → bnd R p q) : Spec mX1_unite [.ref 4, .ref 35, .int P, .int Q, .ref v] M (uniP M 51 P Q v p q) := by
  refine Spec.of (by decide) (by simp [Value.category]) (Nat.le_of_ble_eq_true rfl) ?_
  refine blk 1 [(.aload_n 0, 0, 0, 0), (.getfield 12, 1, 1, 0), (.aload_n 1, 0, 0, 0), (.iload_n 2, 0, 0, 0), (.aload 4, 0, 0, 0)] [] (by decide +kernel) rfl (pc' := 8) (ls' := [some (.ref 4), some (.ref 35), some (.int P), some (.int Q), some (.ref v), none, none]) (st' := [.ref v, .int P, .ref 35, .ref 5]) (M' := M) rfl ⟨trivial, rfl, trivial, trivial, trivial, trivial⟩ ?_
  refine g_callV (s_read5_35 M P (v := v) (w := p) hv hv2 hp hWP (fun a k h1 h2 h3 => hcP a k h1 h2 h3) hnP) ok_X1_unite_X4_read (by decide +kernel) rfl (c := 4) rfl (by decide) rfl (Nat.le_of_ble_eq_true rfl) (fun r A h => ?_) rfl
  obtain ⟨hr, a1, a2, a3, a4, a5⟩ := h
  rw [hr]
  show G _ 11 [some (.ref 4), some (.ref 35), some (.int P), some (.int Q), some (.ref v), none, none] [] A _
  refine blk 1 [(.aload_n 0, 0, 0, 0), (.getfield 18, 1, 2, 0), (.aload_n 1, 0, 0, 0), (.iload_n 3, 0, 0, 0), (.aload 4, 0, 0, 0)] [] (by decide +kernel) rfl (pc' := 19) (ls' := [some (.ref 4), some (.ref 35), some (.int P), some (.int Q), some (.ref v), none, none]) (st' := [.ref v, .int Q, .ref 35, .ref 8]) (M' := A) rfl ⟨trivial, rfl, trivial, trivial, trivial, trivial⟩ ?_
  refine g_callV (s_read8_35 A Q (v := v) (w := q) hv hv2 hq (fun a h1 h2 => by rw [a5 _ (by omega) (by omega)]; exact hWQ a h1 h2) (fun a k h1 h2 h3 => by rw [a5 _ (by omega) (by omega)]; exact hcQ a k h1 h2 h3) hnQ) ok_X1_unite_X4_read (by decide +kernel) rfl (c := 4) rfl (by decide) rfl (Nat.le_of_ble_eq_true rfl) (fun r C h => ?_) rfl
  obtain ⟨hr, b1, b2, b3, b4, b5⟩ := h
  rw [hr]
  show G _ 22 [some (.ref 4), some (.ref 35), some (.int P), some (.int Q), some (.ref v), none, none] [] C _
  refine blk 1 [(.aload_n 0, 0, 0, 0), (.aload_n 0, 0, 0, 0), (.getfield 30, 1, 0, 0), (.getfield 38, 0, 1, 0), (.aload_n 0, 0, 0, 0), (.getfield 12, 1, 1, 0), (.getfield 44, 4, 2, 0), (.imul, 0, 0, 0), (.aload_n 0, 0, 0, 0), (.getfield 18, 1, 2, 0), (.getfield 44, 4, 2, 0), (.imul, 0, 0, 0), (.putfield 47, 1, 6, 0), (.aload_n 0, 0, 0, 0), (.getfield 12, 1, 1, 0), (.getfield 50, 4, 3, 0), (.istore 5, 0, 0, 0)] [] (by decide +kernel) rfl (pc' := 58) (ls' := [some (.ref 4), some (.ref 35), some (.int P), some (.int Q), some (.ref v), some (.int (C 5 3)), none]) (st' := []) (M' := stm C 4 6 (((C 2 1) * (C 5 2)) * (C 8 2))) rfl ⟨trivial, trivial, rfl, rfl, trivial, rfl, rfl, trivial, trivial, rfl, rfl, trivial, rfl, trivial, rfl, rfl, trivial, trivial⟩ ?_
  generalize hRe : stm C 4 6 (((C 2 1) * (C 5 2)) * (C 8 2)) = R
  have r0 : ∀ z, z ≠ 4 → R z = C z := fun z hz => by rw [← hRe, stm_ne hz]
  have rz : ∀ z, (z < 4 ∨ 10 < z) → R z = M z := fun z hz => by rw [r0 z (by omega), b5 z (by omega) (by omega), a5 z (by omega) (by omega)]
  have hR : uR M R 51 P Q v p q := by
    refine ⟨?_, ?_, ?_, ?_, fun k x hk hx => ?_, fun k hk => ?_, fun k x hk hx => ?_, fun k hk => ?_, ?_, rz⟩
    · rw [r0 5 (by decide), b5 5 (by omega) (by decide)]; exact a1
    · rw [r0 8 (by decide), b1]; exact psum_congr (fun j hj => by simp only [whF]; rw [a5 v (by omega) (by omega)])
    · rw [r0 5 (by decide), b5 5 (by omega) (by decide)]; exact a2
    · rw [r0 8 (by decide)]; exact b2
    · rw [r0 6 (by decide), b5 6 (by omega) (by decide)]; exact a3 k x hk hx
    · rw [r0 7 (by decide), b5 7 (by omega) (by decide)]; exact a4 k hk
    · rw [r0 9 (by decide)]; rw [show C 9 (k * 4 + x) = _ from b3 k x hk hx]; exact psum_congr (fun j hj => by simp only [letF]; rw [a5 v (by omega) (by omega), a5 (51 + j + 5) (by omega) (by omega)])
    · rw [r0 10 (by decide)]; rw [show C 10 k = _ from b4 k hk]; exact psum_congr (fun j hj => by simp only [preF]; rw [a5 v (by omega) (by omega), a5 (51 + j + 5) (by omega) (by omega)])
    · rw [r0 5 (by decide), r0 8 (by decide), ← hRe, stm_self, b5 2 (by omega) (by decide), a5 2 (by omega) (by decide)]
  have hm : mrg R p q := ⟨hR.2.2.1, hR.2.2.2.1, hp, hq, hroom⟩
  refine G.sub (ls' := [some (.ref 4), some (.ref 35), some (.int P), some (.int Q), some (.ref v), some (.int (nI (p + 1) - nI 1)), none]) ?_ ⟨rfl, rfl, rfl, rfl, rfl, congrArg (fun z => some (Value.int z)) (by rw [nI_s1, ← hR.2.2.1, r0 5 (by decide)]), trivial⟩
  refine l_uni35 hm (fun T k1 k2 => l_uni335 hv hv2 hp hq hpq hroom hWP hWQ hdis hR k1 k2 (bnd_keep k1 (hbd R hR))) (p + 1) R (Nat.le_refl _) ⟨rfl, rfl, fun _ _ _ => rfl⟩ (fun i j l hi _ _ h => absurd h (by omega))
theorem l_uni337 {M R T : Mem} {P Q : Int32} {v p q : Nat} (hv : al v = 5) (hv2 : 10 < v) (hp : p ≤ 48) (hq : q ≤ 48) (hpq : p + q ≤ 60) (hroom : (p + 1) * (q + 1) ≤ 925) (hWP : ∀ a, a < 5 → ¬ hb P a = 0 → M (61 + a) 1 = nI p) (hWQ : ∀ a, a < 5 → ¬ hb Q a = 0 → M (61 + a) 1 = nI q) (hdis : ∀ a, a < 5 → ¬ hb P a = 0 → ¬ ¬ hb Q a = 0) (hR : uR M R 61 P Q v p q) (hk : keepT R T) (ht : tb T p q (fun _ _ => True)) (hbT : bnd T p q) : G mX1_unite 97 [some (.ref 4), some (.ref 37), some (.int P), some (.int Q), some (.ref v), none, none] [] T (uniP M 61 P Q v p q) := by
  have hmT : mrg T p q := ⟨(congrFun (hk.2.2 5 (by decide) (by omega)) 3).trans hR.2.2.1, (congrFun (hk.2.2 8 (by decide) (by omega)) 3).trans hR.2.2.2.1, hp, hq, hroom⟩
  refine blk 1 [(.aload_n 0, 0, 0, 0)] [] (by decide +kernel) rfl (pc' := 98) (ls' := [some (.ref 4), some (.ref 37), some (.int P), some (.int Q), some (.ref v), none, none]) (st' := [.ref 4]) (M' := T) rfl ⟨trivial, trivial⟩ ?_
  refine g_callV (s_walk T (p := p) (q := q) hmT hpq (tab_ch hbT (by omega) ht)) ok_X1_unite_X1_walk (by decide +kernel) rfl (c := 1) rfl (by decide) rfl (Nat.le_of_ble_eq_true rfl) (fun r W h => ?_) rfl
  obtain ⟨hr, n, n1, n2, n3, n4, w5, w15, w6, wz⟩ := h
  rw [hr]
  have eS : ∀ g, ncnt (W 15) g n = ncnt (stF T p q) g n := fun g => ncnt_congr (fun k hk => w15 k hk)
  have eW : ∀ z, (z < 4 ∨ 15 < z) → W z = M z := fun z hz => by rw [wz z (by omega) (by omega), hk.2.2 z (by omega) (by omega)]; exact hR.2.2.2.2.2.2.2.2.2 z (by omega)
  show G _ 101 [some (.ref 4), some (.ref 37), some (.int P), some (.int Q), some (.ref v), none, none] [] W _
  refine blk 1 [(.aload_n 1, 0, 0, 0), (.iload_n 2, 0, 0, 0), (.aload_n 0, 0, 0, 0), (.getfield 26, 1, 4, 0), (.aload_n 0, 0, 0, 0), (.getfield 60, 1, 5, 0), (.iconst 2, 0, 0, (nI 2))] [] (by decide +kernel) rfl (pc' := 112) (ls' := [some (.ref 4), some (.ref 37), some (.int P), some (.int Q), some (.ref v), none, none]) (st' := [.int (nI 2), .int (W 4 5), .ref 15, .int P, .ref 37]) (M' := W) rfl ⟨trivial, trivial, trivial, rfl, trivial, rfl, trivial, trivial⟩ ?_
  rw [w5]
  refine g_callV (s_sspread37 W (n := n) (S := P) (g := nI 2) (by omega) (fun a h1 h2 => by rw [eS, ← wst_P, n2, eW _ (by omega)]; exact hWP a h1 h2)) ok_X1_unite_X3_spread (by decide +kernel) rfl (c := 3) rfl (by decide) rfl (Nat.le_of_ble_eq_true rfl) (fun r X h => ?_) rfl
  obtain ⟨hr, x1, x2⟩ := h
  rw [hr]
  have x4 : X 4 = W 4 := x2 4 (fun a _ _ => by omega)
  have x15 : X 15 = W 15 := x2 15 (fun a _ _ => by omega)
  show G _ 115 [some (.ref 4), some (.ref 37), some (.int P), some (.int Q), some (.ref v), none, none] [] X _
  refine blk 1 [(.aload_n 1, 0, 0, 0), (.iload_n 3, 0, 0, 0), (.aload_n 0, 0, 0, 0), (.getfield 26, 1, 4, 0), (.aload_n 0, 0, 0, 0), (.getfield 60, 1, 5, 0), (.iconst 1, 0, 0, (nI 1))] [] (by decide +kernel) rfl (pc' := 126) (ls' := [some (.ref 4), some (.ref 37), some (.int P), some (.int Q), some (.ref v), none, none]) (st' := [.int (nI 1), .int (X 4 5), .ref 15, .int Q, .ref 37]) (M' := X) rfl ⟨trivial, trivial, trivial, rfl, trivial, rfl, trivial, trivial⟩ ?_
  rw [show X 4 5 = nI n by rw [x4]; exact w5]
  refine g_callV (s_sspread37 X (n := n) (S := Q) (g := nI 1) (by omega) (fun a h1 h2 => by rw [x15, eS, ← wst_Q, n3, x2 _ (fun c _ h4 => ⟨fun e => by rw [show a = c by omega] at h2; exact hdis c (by omega) h4 h2, by omega⟩), eW _ (by omega)]; exact hWQ a h1 h2)) ok_X1_unite_X3_spread (by decide +kernel) rfl (c := 3) rfl (by decide) rfl (Nat.le_of_ble_eq_true rfl) (fun r F h => ?_) rfl
  obtain ⟨hr, y1, y2⟩ := h
  rw [hr]
  show G _ 129 [some (.ref 4), some (.ref 37), some (.int P), some (.int Q), some (.ref v), none, none] [] F _
  refine blk 1 [(.aload_n 0, 0, 0, 0), (.getfield 23, 1, 3, 0), (.iconst 0, 0, 0, (nI 0)), (.aaload, 0, 0, 0), (.iconst 0, 0, 0, (nI 0)), (.iaload, 0, 0, 0)] [0, 0] (by decide +kernel) rfl (pc' := 137) (ls' := [some (.ref 4), some (.ref 37), some (.int P), some (.int Q), some (.ref v), none, none]) (st' := [.int (F 12 0)]) (M' := F) rfl ⟨trivial, rfl, trivial, ⟨rfl, (by decide)⟩, trivial, ⟨rfl, (by decide)⟩, trivial⟩ ?_
  refine g_ireturn (by decide +kernel) rfl rfl ⟨R, T, n, hR, hk, ht, hbT, ⟨n1, n2, n3, n4⟩, ?_, fun a h1 h2 => ?_, fun a h1 h2 => ?_, fun z h1 h2 => ?_⟩
  · rw [y2 12 (fun a _ _ => by omega), x2 12 (fun a _ _ => by omega), wz 12 (by decide) (by decide)]
  · have d := x1 a h1 h2
    rw [y2 (61 + a) (fun c _ h4 => ⟨fun e => by rw [show a = c by omega] at h2; exact hdis c (by omega) h2 h4, by omega⟩), y2 (61 + a + 5) (fun c _ h4 => ⟨by omega, fun e => by rw [show a = c by omega] at h2; exact hdis c (by omega) h2 h4⟩)]
    refine ⟨d.1, fun j hj => ?_⟩
    rw [d.2 j hj, w15 j hj, eW (61 + a + 5) (by omega), ncnt_congr (g := stF T p q) (fun k hk => w15 k (by omega))]; rfl
  · have d := y1 a h1 h2
    refine ⟨d.1, fun j hj => ?_⟩
    rw [d.2 j hj, x15, w15 j hj, x2 (61 + a + 5) (fun c _ h4 => ⟨by omega, fun e => by rw [show a = c by omega] at h2; exact hdis c (by omega) h4 h2⟩), eW (61 + a + 5) (by omega), ncnt_congr (g := stF T p q) (fun k hk => w15 k (by omega))]; rfl
  · rw [y2 z (fun c h3 h4 => h2 c h3 (Or.inr h4)), x2 z (fun c h3 h4 => h2 c h3 (Or.inl h4)), eW z h1]
theorem s_unite37 (M : Mem) {P Q : Int32} {v p q : Nat} (hv : al v = 5) (hv2 : 10 < v) (hp : p ≤ 48) (hq : q ≤ 48) (hpq : p + q ≤ 60) (hroom : (p + 1) * (q + 1) ≤ 925) (hWP : ∀ a, a < 5 → ¬ hb P a = 0 → M (61 + a) 1 = nI p) (hWQ : ∀ a, a < 5 → ¬ hb Q a = 0 → M (61 + a) 1 = nI q) (hdis : ∀ a, a < 5 → ¬ hb P a = 0 → ¬ ¬ hb Q a = 0) (hcP : ∀ a k, a < 5 → ¬ hb P a = 0 → k < p → okc (M (61 + a + 5) k)) (hcQ : ∀ a k, a < 5 → ¬ hb Q a = 0 → k < q → okc (M (61 + a + 5) k)) (hnP : ∃ a, a < 5 ∧ ¬ hb P a = 0) (hnQ : ∃ a, a < 5 ∧ ¬ hb Q a = 0) (hbd : ∀ R, uR M R 61 P Q v p q → bnd R p q) : Spec mX1_unite [.ref 4, .ref 37, .int P, .int Q, .ref v] M (uniP M 61 P Q v p q) := by
  refine Spec.of (by decide) (by simp [Value.category]) (Nat.le_of_ble_eq_true rfl) ?_
  refine blk 1 [(.aload_n 0, 0, 0, 0), (.getfield 12, 1, 1, 0), (.aload_n 1, 0, 0, 0), (.iload_n 2, 0, 0, 0), (.aload 4, 0, 0, 0)] [] (by decide +kernel) rfl (pc' := 8) (ls' := [some (.ref 4), some (.ref 37), some (.int P), some (.int Q), some (.ref v), none, none]) (st' := [.ref v, .int P, .ref 37, .ref 5]) (M' := M) rfl ⟨trivial, rfl, trivial, trivial, trivial, trivial⟩ ?_
  refine g_callV (s_read5_37 M P (v := v) (w := p) hv hv2 hp hWP (fun a k h1 h2 h3 => hcP a k h1 h2 h3) hnP) ok_X1_unite_X4_read (by decide +kernel) rfl (c := 4) rfl (by decide) rfl (Nat.le_of_ble_eq_true rfl) (fun r A h => ?_) rfl
  obtain ⟨hr, a1, a2, a3, a4, a5⟩ := h
  rw [hr]
  show G _ 11 [some (.ref 4), some (.ref 37), some (.int P), some (.int Q), some (.ref v), none, none] [] A _
  refine blk 1 [(.aload_n 0, 0, 0, 0), (.getfield 18, 1, 2, 0), (.aload_n 1, 0, 0, 0), (.iload_n 3, 0, 0, 0), (.aload 4, 0, 0, 0)] [] (by decide +kernel) rfl (pc' := 19) (ls' := [some (.ref 4), some (.ref 37), some (.int P), some (.int Q), some (.ref v), none, none]) (st' := [.ref v, .int Q, .ref 37, .ref 8]) (M' := A) rfl ⟨trivial, rfl, trivial, trivial, trivial, trivial⟩ ?_
  refine g_callV (s_read8_37 A Q (v := v) (w := q) hv hv2 hq (fun a h1 h2 => by rw [a5 _ (by omega) (by omega)]; exact hWQ a h1 h2) (fun a k h1 h2 h3 => by rw [a5 _ (by omega) (by omega)]; exact hcQ a k h1 h2 h3) hnQ) ok_X1_unite_X4_read (by decide +kernel) rfl (c := 4) rfl (by decide) rfl (Nat.le_of_ble_eq_true rfl) (fun r C h => ?_) rfl
  obtain ⟨hr, b1, b2, b3, b4, b5⟩ := h
  rw [hr]
  show G _ 22 [some (.ref 4), some (.ref 37), some (.int P), some (.int Q), some (.ref v), none, none] [] C _
  refine blk 1 [(.aload_n 0, 0, 0, 0), (.aload_n 0, 0, 0, 0), (.getfield 30, 1, 0, 0), (.getfield 38, 0, 1, 0), (.aload_n 0, 0, 0, 0), (.getfield 12, 1, 1, 0), (.getfield 44, 4, 2, 0), (.imul, 0, 0, 0), (.aload_n 0, 0, 0, 0), (.getfield 18, 1, 2, 0), (.getfield 44, 4, 2, 0), (.imul, 0, 0, 0), (.putfield 47, 1, 6, 0), (.aload_n 0, 0, 0, 0), (.getfield 12, 1, 1, 0), (.getfield 50, 4, 3, 0), (.istore 5, 0, 0, 0)] [] (by decide +kernel) rfl (pc' := 58) (ls' := [some (.ref 4), some (.ref 37), some (.int P), some (.int Q), some (.ref v), some (.int (C 5 3)), none]) (st' := []) (M' := stm C 4 6 (((C 2 1) * (C 5 2)) * (C 8 2))) rfl ⟨trivial, trivial, rfl, rfl, trivial, rfl, rfl, trivial, trivial, rfl, rfl, trivial, rfl, trivial, rfl, rfl, trivial, trivial⟩ ?_
  generalize hRe : stm C 4 6 (((C 2 1) * (C 5 2)) * (C 8 2)) = R
  have r0 : ∀ z, z ≠ 4 → R z = C z := fun z hz => by rw [← hRe, stm_ne hz]
  have rz : ∀ z, (z < 4 ∨ 10 < z) → R z = M z := fun z hz => by rw [r0 z (by omega), b5 z (by omega) (by omega), a5 z (by omega) (by omega)]
  have hR : uR M R 61 P Q v p q := by
    refine ⟨?_, ?_, ?_, ?_, fun k x hk hx => ?_, fun k hk => ?_, fun k x hk hx => ?_, fun k hk => ?_, ?_, rz⟩
    · rw [r0 5 (by decide), b5 5 (by omega) (by decide)]; exact a1
    · rw [r0 8 (by decide), b1]; exact psum_congr (fun j hj => by simp only [whF]; rw [a5 v (by omega) (by omega)])
    · rw [r0 5 (by decide), b5 5 (by omega) (by decide)]; exact a2
    · rw [r0 8 (by decide)]; exact b2
    · rw [r0 6 (by decide), b5 6 (by omega) (by decide)]; exact a3 k x hk hx
    · rw [r0 7 (by decide), b5 7 (by omega) (by decide)]; exact a4 k hk
    · rw [r0 9 (by decide)]; rw [show C 9 (k * 4 + x) = _ from b3 k x hk hx]; exact psum_congr (fun j hj => by simp only [letF]; rw [a5 v (by omega) (by omega), a5 (61 + j + 5) (by omega) (by omega)])
    · rw [r0 10 (by decide)]; rw [show C 10 k = _ from b4 k hk]; exact psum_congr (fun j hj => by simp only [preF]; rw [a5 v (by omega) (by omega), a5 (61 + j + 5) (by omega) (by omega)])
    · rw [r0 5 (by decide), r0 8 (by decide), ← hRe, stm_self, b5 2 (by omega) (by decide), a5 2 (by omega) (by decide)]
  have hm : mrg R p q := ⟨hR.2.2.1, hR.2.2.2.1, hp, hq, hroom⟩
  refine G.sub (ls' := [some (.ref 4), some (.ref 37), some (.int P), some (.int Q), some (.ref v), some (.int (nI (p + 1) - nI 1)), none]) ?_ ⟨rfl, rfl, rfl, rfl, rfl, congrArg (fun z => some (Value.int z)) (by rw [nI_s1, ← hR.2.2.1, r0 5 (by decide)]), trivial⟩
  refine l_uni37 hm (fun T k1 k2 => l_uni337 hv hv2 hp hq hpq hroom hWP hWQ hdis hR k1 k2 (bnd_keep k1 (hbd R hR))) (p + 1) R (Nat.le_refl _) ⟨rfl, rfl, fun _ _ _ => rfl⟩ (fun i j l hi _ _ h => absurd h (by omega))
