/-! the reference's align: joins, merges, the layout -/
theorem picked_suf {D : Nat → Nat → Int32} {sp : Bool} {n : Nat} : ∀ (a b : Hist), picked D sp n (a ++ b) → picked D sp n b := by
  intro a
  induction a with
  | nil => intro b h; exact h
  | cons x a ih => intro b h; exact ih b h.1
def jnFr (M N : Mem) : Prop := (∀ f, f ≠ 38 → f ≠ 39 → N 72 f = M 72 f) ∧ ∀ z, z ≠ 72 → z ≠ 78 → z ≠ 79 → z ≠ 80 → z ≠ 82 → z ≠ 85 → z ≠ 86 → N z = M z
theorem mT_0 {M : Mem} {dd : Nat → Nat → Nat} {sp : Bool} {n : Nat} (hn : M 72 0 = nI n) (h9 : M 72 9 = 0 ↔ sp = false) (h80 : ∀ a, a < n → M 80 a = -1 ∧ M 82 a = nI (2 ^ a) ∧ M 85 a = nI 0) (hd : ∀ a b, a < n → b < n → M 87 (5 * a + b) = dsE dd a b ∧ M 86 (9 * a + b) = nI 8 * dsE dd a b) : mT (dI dd) sp n [] M := by
  refine ⟨hn, h9, fun a ha => ⟨(h80 a ha).2.1, (h80 a ha).1⟩, fun a h1 h2 => absurd h2 (by show ¬ a < n; omega), fun _ a ha => (h80 a ha).2.2, fun hs a b ha hb hab _ _ => ?_, fun v w hv hw hvw => ?_⟩
  · rw [(hd a b ha hb).2]
    unfold dsE bwF
    rw [if_neg hab, if_neg hs]
    try rfl
  · rw [(hd v w hv hw).1]
    unfold dsE
    rw [if_neg hvw]
    try rfl
theorem l_mjn {M : Mem} {dd : Nat → Nat → Nat} {sp : Bool} {n : Nat} {h : Hist} {Post : Option Value → Mem → Prop} (hn5 : n ≤ 5) (hl : h.length + 1 = n) (hds : ∀ a b, dd a b = dd b a) (hdd : ∀ a b, dd a b ≤ 1000) (hpk : picked (dI dd) sp n h) (hp : ∀ N, mT (dI dd) sp n h N → jnFr M N → G mX7_align 217 [some (.ref 72), some (.int (nI (2 * n - 2))), none, none] [] N Post) : ∀ d pre hs N, d = pre.length → h = pre ++ hs → mT (dI dd) sp n hs N → jnFr M N → G mX7_align 201 [some (.ref 72), some (.int (nI (2 * n - 2))), some (.int (nI (n + hs.length))), none] [] N Post := by
  intro d
  induction d using Nat.strongRecOn with
  | ind d ih =>
    intro pre hs N hd hsp hT j2
    have hlen : h.length = pre.length + hs.length := by rw [hsp]; simp
    refine blk 7 [(.iload_n 2, 0, 0, 0), (.iload_n 1, 0, 0, 0)] [] (by decide +kernel) rfl (pc' := 203) (ls' := [some (.ref 72), some (.int (nI (2 * n - 2))), some (.int (nI (n + hs.length))), none]) (st' := [.int (nI (2 * n - 2)), .int (nI (n + hs.length))]) (M' := N) rfl ⟨trivial, trivial, trivial⟩ ?_
    refine g_icmp_gt (off := 14) (tgt := 217) (by decide +kernel) (by decide) (fun c1 => ?_) (fun c1 => ?_)
    · have nc1 : (2 * n - 2) < (n + hs.length) := (nI_ltI (by omega) (by omega)).mp (by simpa only [nI_add, pk_mul, nI_s1, n0_lit] using c1)
      have hlh : h.length = pre.length + hs.length := by rw [hsp]; simp
      have e : pre = [] := List.length_eq_zero_iff.mp (by omega)
      rw [e] at hsp
      have e2 : h = hs := hsp
      subst e2
      refine G.sub (ls' := [some (.ref 72), some (.int (nI (2 * n - 2))), none, none]) ?_ ⟨rfl, rfl, trivial⟩
      exact hp N hT j2
    · have nc1 : (n + hs.length) ≤ (2 * n - 2) := by
        have z : ¬ nI (2 * n - 2) < nI (n + hs.length) := by simpa only [nI_add, pk_mul, nI_s1, n0_lit] using c1
        rw [nI_ltI (by omega) (by omega)] at z
        omega
      refine blk 7 [(.aload_n 0, 0, 0, 0), (.iload_n 2, 0, 0, 0)] [] (by decide +kernel) rfl (pc' := 208) (ls' := [some (.ref 72), some (.int (nI (2 * n - 2))), some (.int (nI (n + hs.length))), none]) (st' := [.int (nI (n + hs.length)), .ref 72]) (M' := N) rfl ⟨trivial, trivial, trivial⟩ ?_
      rcases List.eq_nil_or_concat pre with e | ⟨L, b, e⟩
      · exfalso
        rw [e] at hsp
        have e2 : h = hs := hsp
        rw [e2] at hl
        omega
      have hsp2 : h = L ++ (b :: hs) := by rw [hsp, e]; simp
      have hpk2 := picked_suf L (b :: hs) (by rw [← hsp2]; exact hpk)
      have hll : h.length = L.length + (hs.length + 1) := by rw [hsp2]; simp
      have hpl : pre.length = L.length + 1 := by rw [e]; simp
      refine g_callV (s_mjoin (l := b.1) (q := b.2) N hn5 (by omega) hds hdd (picked_ok hpk2.1) hT hpk2.2) ok_X7_align_X7_join (by decide +kernel) rfl (c := 7) rfl (by decide) rfl (Nat.le_of_ble_eq_true rfl) (fun r A hA => ?_) rfl
      obtain ⟨hr, a1, a2, a3⟩ := hA
      rw [hr]
      show G _ 211 [some (.ref 72), some (.int (nI (2 * n - 2))), some (.int (nI (n + hs.length))), none] [] A _
      refine blk 7 [(.iinc 2 1, 0, 0, (nI 1)), (.goto (-13), 201, 0, 0)] [] (by decide +kernel) rfl (pc' := 201) (ls' := [some (.ref 72), some (.int (nI (2 * n - 2))), some (.int (nI (n + hs.length) + nI 1)), none]) (st' := []) (M' := A) rfl ⟨trivial, trivial, trivial⟩ ?_
      refine G.sub (ls' := [some (.ref 72), some (.int (nI (2 * n - 2))), some (.int (nI (n + (b :: hs).length))), none]) ?_ ⟨rfl, rfl, congrArg (fun z => some (Value.int z)) (by rw [nI_add]; rfl), trivial⟩
      exact ih (d - 1) (by omega) L (b :: hs) A (by omega) hsp2 a1 ⟨fun f h1 h2 => by rw [a2 f h1 h2]; exact j2.1 f h1 h2, fun z h1 h2 h3 h4 h5 h6 h7 => by rw [a3 z h1 h2 h3 h4 h5 h6 h7]; exact j2.2 z h1 h2 h3 h4 h5 h6 h7⟩
/-- a merge of the reference at node k says what the class's merge said -/
theorem mg_step {N0 D F : Mem} {B n k : Nat} {h : Hist} {wd : Nat → Nat} {ce : Nat → Nat → Nat → Int32} {wt : Nat → Int32} {r : Option Value} (hn5 : n ≤ 5) (hl : h.length < n) (hh : okH n h) (h0 : n ≤ k) (hk : k < n + h.length) (hwd : ∀ a, a < n + h.length → 1 ≤ wd a ∧ wd a ≤ 12 * sizF n h a) (hdat : dataOK N0 24) (hm : mrgW N0 B n h wd ce wt k)
    (d25 : D 72 25 = nI (mskF n h (kidF n h k).1)) (d26 : D 72 26 = nI (mskF n h (kidF n h k).2)) (d90 : ∀ w, w < 5 → ¬ hb (nI (mskF n h (kidF n h k).1)) w = 0 → ∀ c, c < wd (kidF n h k).1 → D 90 (60 * w + c) = ce (kidF n h k).1 w c) (d91 : ∀ w, w < 5 → ¬ hb (nI (mskF n h (kidF n h k).2)) w = 0 → ∀ c, c < wd (kidF n h k).2 → D 91 (60 * w + c) = ce (kidF n h k).2 w c) (d39 : ∀ a, a < n → D 39 a = N0 24 a) (d77 : ∀ k, k < 16 → D 77 k = N0 3 k) (d6 : D 72 6 = N0 2 1) (d7 : D 72 7 = N0 2 2) :
    mcell D (wd (kidF n h k).1) (wd (kidF n h k).2) ∧ (mergeP D (wd (kidF n h k).1) (wd (kidF n h k).2) r F → some (.int (wt k)) = r ∧ F 72 31 = nI (wd k) ∧ ∀ w, w < 5 → ¬ hb (nI (mskF n h k)) w = 0 → ∀ c, c < wd k → F 92 (60 * w + c) = ce k w c) := by
  have hkid := hist_ch hn5 hl hh h0 hk
  have hz := hist_sz hn5 hl hh h0 hk
  obtain ⟨C, E, c1, c2, c3, c4, c5⟩ := hm
  have w1 := hwd (kidF n h k).1 (by omega)
  have w2 := hwd (kidF n h k).2 (by omega)
  have w3 := hwd k hk
  have s1 := (hist_small hn5 hl hh (a := (kidF n h k).1) (by omega)).2.2
  have s2 := (hist_small hn5 hl hh (a := (kidF n h k).2) (by omega)).2.2
  have okP : ∀ a c, a < 5 → ¬ hb (nI (mskF n h (kidF n h k).1)) a = 0 → c < wd (kidF n h k).1 → okc (C (B + a + 5) c) := fun a c ha hx hc => by rw [((c2 a ha hx).2 c hc).1]; exact ((c2 a ha hx).2 c hc).2
  have okQ : ∀ a c, a < 5 → ¬ hb (nI (mskF n h (kidF n h k).2)) a = 0 → c < wd (kidF n h k).2 → okc (C (B + a + 5) c) := fun a c ha hx hc => by rw [((c3 a ha hx).2 c hc).1]; exact ((c3 a ha hx).2 c hc).2
  refine ⟨⟨fun v c hv hc hx => ?_, fun v c hv hc hx => ?_⟩, fun hF => ?_⟩
  · rw [d25] at hx; rw [d90 v hv hx c hc]; exact ((c2 v hv hx).2 c hc).2
  · rw [d26] at hx; rw [d91 v hv hx c hc]; exact ((c3 v hv hx).2 c hc).2
  · have hg : grp C D B (nI (mskF n h (kidF n h k).1)) (nI (mskF n h (kidF n h k).2)) 24 (wd (kidF n h k).1) (wd (kidF n h k).2) := by
      refine ⟨d25, d26, fun a c ha hx hc => ?_, fun a c ha hx hc => ?_, fun a ha hx => ?_, fun x hx => ?_, ?_, ?_⟩
      · rw [d90 a ha hx c hc]; exact ((c2 a ha hx).2 c hc).1.symm
      · rw [d91 a ha hx c hc]; exact ((c3 a ha hx).2 c hc).1.symm
      · rw [c1 24 (by omega)]
        exact d39 a (by rcases hx with y | y; exact hist_words hn5 hl hh (by omega) ha y; exact hist_words hn5 hl hh (by omega) ha y)
      · rw [c1 3 (by omega)]; exact d77 x hx
      · rw [c1 2 (by omega)]; exact d6
      · rw [c1 2 (by omega)]; exact d7
    have hdC : dataOK C 24 := by unfold dataOK at *; rw [c1 24 (by omega), c1 3 (by omega), c1 2 (by omega)]; exact hdat
    obtain ⟨q1, m, q2, q3, q4, q5, q6⟩ := merged_same hdC hg (by omega) okP okQ (fun a ha => hb_and s1 s2 ha hkid.2.2.2.2.2) c4 hF
    have or2 : ∀ w, w < 5 → ¬ hb (nI (mskF n h k)) w = 0 → (¬ hb (nI (mskF n h (kidF n h k).1)) w = 0 ∨ ¬ hb (nI (mskF n h (kidF n h k).2)) w = 0) := fun w hw hx => by
      rw [hkid.2.2.2.2.1] at hx
      exact (hb_or s1 s2 hw).mp hx
    obtain ⟨w0, hw0, hx0⟩ := hist_some hn5 hl hh hk
    have em : m = wd k := (nI_eq (by omega) (by omega)).mp ((q6 w0 hw0 (or2 w0 hw0 hx0)).1.symm.trans (c5 w0 hw0 hx0).1)
    subst em
    refine ⟨q1, q5, fun w hw hx c hc => ?_⟩
    rw [← ((q6 w hw (or2 w hw hx)).2 c hc).1]
    exact ((c5 w hw hx).2 c hc).1
def mgI (n : Nat) (h : Hist) (wd : Nat → Nat) (ce : Nat → Nat → Nat → Int32) (wt : Nat → Int32) (N : Mem) (k : Nat) : Prop := (∀ a, a < k → N 83 a = nI (wd a) ∧ ∀ w, w < 5 → ¬ hb (nI (mskF n h a)) w = 0 → ∀ c, c < wd a → N 84 (300 * a + (60 * w + c)) = ce a w c) ∧ ∀ j, n ≤ j → j < k → N 81 j = wt j
def mgFr (M N : Mem) : Prop := (∀ f, (f < 25 ∨ 28 < f) → f ≠ 31 → N 72 f = M 72 f) ∧ ∀ z, z ≠ 72 → z ≠ 40 → z ≠ 81 → z ≠ 83 → z ≠ 84 → (z < 90 ∨ 95 < z) → N z = M z
theorem l_mg3 {B : Mem} {k n : Nat} {Post : Option Value → Mem → Prop} (hk : k < 9) (hp : ∀ N, (∀ x, x < 300 → N 84 (300 * k + x) = B 92 x) → (∀ y, (∀ x, x < 300 → y ≠ 300 * k + x) → N 84 y = B 84 y) → (∀ z, z ≠ 84 → N z = B z) → G mX7_align 308 [some (.ref 72), some (.int (nI (2 * n - 2))), some (.int (nI k)), none] [] N Post) : ∀ d x N, d = 300 - x → x ≤ 300 → (∀ y, y < x → N 84 (300 * k + y) = B 92 y) → (∀ y, (∀ u, u < x → y ≠ 300 * k + u) → N 84 y = B 84 y) → (∀ z, z ≠ 84 → N z = B z) → G mX7_align 277 [some (.ref 72), some (.int (nI (2 * n - 2))), some (.int (nI k)), some (.int (nI x))] [] N Post := by
  intro d
  induction d using Nat.strongRecOn with
  | ind d ih =>
    intro x N hd hx j1 j2 j3
    refine blk 7 [(.iload_n 3, 0, 0, 0), (.sipush 300, 0, 0, (nI 300))] [] (by decide +kernel) rfl (pc' := 281) (ls' := [some (.ref 72), some (.int (nI (2 * n - 2))), some (.int (nI k)), some (.int (nI x))]) (st' := [.int (nI 300), .int (nI x)]) (M' := N) rfl ⟨trivial, trivial, trivial⟩ ?_
    refine g_icmp_ge (off := 27) (tgt := 308) (by decide +kernel) (by decide) (fun c1 => ?_) (fun c1 => ?_)
    · have nc1 : 300 ≤ x := (nI_leI (by omega) (by omega)).mp (by simpa only [nI_add, pk_mul, nI_s1, n0_lit] using c1)
      have e : x = 300 := by omega
      subst e
      refine G.sub (ls' := [some (.ref 72), some (.int (nI (2 * n - 2))), some (.int (nI k)), none]) ?_ ⟨rfl, rfl, rfl, trivial⟩
      exact hp N j1 j2 j3
    · have nc1 : x < 300 := by
        have z : ¬ nI 300 ≤ nI x := by simpa only [nI_add, pk_mul, nI_s1, n0_lit] using c1
        rw [nI_leI (by omega) (by omega)] at z
        omega
      refine blk 7 [(.aload_n 0, 0, 0, 0), (.getfield 47, 7, 18, 0), (.sipush 300, 0, 0, (nI 300)), (.iload_n 2, 0, 0, 0), (.imul, 0, 0, 0), (.iload_n 3, 0, 0, 0), (.iadd, 0, 0, 0), (.aload_n 0, 0, 0, 0), (.getfield 71, 7, 32, 0), (.iload_n 3, 0, 0, 0), (.iaload, 0, 0, 0), (.iastore, 0, 0, 0), (.iinc 3 1, 0, 0, (nI 1)), (.goto (-28), 277, 0, 0)] [x, 300 * k + x] (by decide +kernel) rfl (pc' := 277) (ls' := [some (.ref 72), some (.int (nI (2 * n - 2))), some (.int (nI k)), some (.int (nI x + nI 1))]) (st' := []) (M' := stm N 84 (300 * k + x) (N 92 x)) rfl ⟨trivial, rfl, trivial, trivial, trivial, trivial, trivial, trivial, rfl, trivial, ⟨rfl, (by show _ < 300; omega)⟩, ⟨(by simp only [nI_add, pk_mul, nI_s1, Nat.reduceAdd, Nat.reduceMul]), (by show _ < 2700; omega), by decide⟩, trivial, trivial, trivial⟩ ?_
      refine G.sub (ls' := [some (.ref 72), some (.int (nI (2 * n - 2))), some (.int (nI k)), some (.int (nI (x + 1)))]) ?_ ⟨rfl, rfl, rfl, congrArg (fun z => some (Value.int z)) (by simp only [nI_add, nI_s1]), trivial⟩
      refine ih (d - 1) (by omega) (x + 1) _ (by omega) (by omega) (fun y hy => ?_) (fun y hy => ?_) (fun z hz => by rw [stm_ne hz]; exact j3 z hz)
      · by_cases e : y = x
        · subst e; rw [stm_self, j3 92 (by decide)]
        · rw [stm_off (by omega)]; exact j1 y (by omega)
      · rw [stm_off (hy x (by omega))]; exact j2 y (fun u hu => hy u (by omega))
theorem l_mg4 {N : Mem} {k n : Nat} {Post : Option Value → Mem → Prop} (hp : G mX7_align 230 [some (.ref 72), some (.int (nI (2 * n - 2))), some (.int (nI (k + 1))), none] [] N Post) : G mX7_align 308 [some (.ref 72), some (.int (nI (2 * n - 2))), some (.int (nI k)), none] [] N Post := by
  refine blk 7 [(.iinc 2 1, 0, 0, (nI 1)), (.goto (-81), 230, 0, 0)] [] (by decide +kernel) rfl (pc' := 230) (ls' := [some (.ref 72), some (.int (nI (2 * n - 2))), some (.int (nI k + nI 1)), none]) (st' := []) (M' := N) rfl ⟨trivial, trivial, trivial⟩ ?_
  refine G.sub (ls' := [some (.ref 72), some (.int (nI (2 * n - 2))), some (.int (nI (k + 1))), none]) ?_ ⟨rfl, rfl, congrArg (fun z => some (Value.int z)) (by simp only [nI_add, nI_s1]), trivial⟩
  exact hp
theorem l_mg1 {D : Nat → Nat → Int32} {sp : Bool} {M N0 : Mem} {B n : Nat} {h : Hist} {wd : Nat → Nat} {ce : Nat → Nat → Nat → Int32} {wt : Nat → Int32} {Post : Option Value → Mem → Prop} (hn5 : n ≤ 5) (hn1 : 1 ≤ n) (hl : h.length + 1 = n) (hh : okH n h) (hT : mT D sp n h M) (hwd : ∀ a, a < n + h.length → 1 ≤ wd a ∧ wd a ≤ 12 * sizF n h a) (hdat : dataOK N0 24) (hmg : ∀ j, n ≤ j → j < n + h.length → mrgW N0 B n h wd ce wt j) (hf : ∀ a, a < n → M 39 a = N0 24 a) (h77 : ∀ k, k < 16 → M 77 k = N0 3 k) (h6 : M 72 6 = N0 2 1) (h7 : M 72 7 = N0 2 2) (hp : ∀ N, mgI n h wd ce wt N (n + h.length) → mgFr M N → G mX7_align 314 [some (.ref 72), some (.int (nI (2 * n - 2))), none, none] [] N Post) : ∀ d k N, d = n + h.length - k → n ≤ k → k ≤ n + h.length → mgI n h wd ce wt N k → mgFr M N → G mX7_align 230 [some (.ref 72), some (.int (nI (2 * n - 2))), some (.int (nI k)), none] [] N Post := by
  intro d
  induction d using Nat.strongRecOn with
  | ind d ih =>
    intro k N hd hk0 hk j1 j2
    have hTN : mT D sp n h N := mT_fr (j2.1 0 (by omega) (by omega)) (j2.1 9 (by omega) (by omega)) (fun z hz => j2.2 z (by omega) (by omega) (by omega) (by omega) (by omega) (by omega)) hT
    refine blk 7 [(.iload_n 2, 0, 0, 0), (.iload_n 1, 0, 0, 0)] [] (by decide +kernel) rfl (pc' := 232) (ls' := [some (.ref 72), some (.int (nI (2 * n - 2))), some (.int (nI k)), none]) (st' := [.int (nI (2 * n - 2)), .int (nI k)]) (M' := N) rfl ⟨trivial, trivial, trivial⟩ ?_
    refine g_icmp_gt (off := 82) (tgt := 314) (by decide +kernel) (by decide) (fun c1 => ?_) (fun c1 => ?_)
    · have nc1 : (2 * n - 2) < k := (nI_ltI (by omega) (by omega)).mp (by simpa only [nI_add, pk_mul, nI_s1, n0_lit] using c1)
      have e : k = n + h.length := by omega
      subst e
      refine G.sub (ls' := [some (.ref 72), some (.int (nI (2 * n - 2))), none, none]) ?_ ⟨rfl, rfl, trivial⟩
      exact hp N j1 j2
    · have nc1 : k ≤ (2 * n - 2) := by
        have z : ¬ nI (2 * n - 2) < nI k := by simpa only [nI_add, pk_mul, nI_s1, n0_lit] using c1
        rw [nI_ltI (by omega) (by omega)] at z
        omega
      have hkid := hist_ch hn5 (show h.length < n by omega) hh (a := k) (by omega) (by omega)
      refine blk 7 [(.aload_n 0, 0, 0, 0), (.aload_n 0, 0, 0, 0), (.getfield 29, 7, 12, 0), (.iload_n 2, 0, 0, 0), (.iaload, 0, 0, 0)] [k] (by decide +kernel) rfl (pc' := 242) (ls' := [some (.ref 72), some (.int (nI (2 * n - 2))), some (.int (nI k)), none]) (st' := [.int (N 78 k), .ref 72]) (M' := N) rfl ⟨trivial, trivial, rfl, trivial, ⟨rfl, (by show _ < 9; omega)⟩, trivial⟩ ?_
      rw [(hTN.2.2.2.1 k (by omega) (by omega)).1]
      refine g_callV (s_takeP N (a := (kidF n h k).1) (by omega)) ok_X7_align_X7_takeP (by decide +kernel) rfl (c := 7) rfl (by decide) rfl (Nat.le_of_ble_eq_true rfl) (fun r X hX => ?_) rfl
      obtain ⟨hr1, x1, x2, x3, x4, x5⟩ := hX
      rw [hr1]
      show G _ 245 [some (.ref 72), some (.int (nI (2 * n - 2))), some (.int (nI k)), none] [] X _
      refine blk 7 [(.aload_n 0, 0, 0, 0), (.aload_n 0, 0, 0, 0), (.getfield 32, 7, 13, 0), (.iload_n 2, 0, 0, 0), (.iaload, 0, 0, 0)] [k] (by decide +kernel) rfl (pc' := 252) (ls' := [some (.ref 72), some (.int (nI (2 * n - 2))), some (.int (nI k)), none]) (st' := [.int (X 79 k), .ref 72]) (M' := X) rfl ⟨trivial, trivial, rfl, trivial, ⟨rfl, (by show _ < 9; omega)⟩, trivial⟩ ?_
      rw [x5 79 (by decide) (by decide), (hTN.2.2.2.1 k (by omega) (by omega)).2]
      refine g_callV (s_takeQ X (a := (kidF n h k).2) (by omega)) ok_X7_align_X7_takeQ (by decide +kernel) rfl (c := 7) rfl (by decide) rfl (Nat.le_of_ble_eq_true rfl) (fun r Y hX => ?_) rfl
      obtain ⟨hr2, y1, y2, y3, y4, y5⟩ := hX
      rw [hr2]
      show G _ 255 [some (.ref 72), some (.int (nI (2 * n - 2))), some (.int (nI k)), none] [] Y _
      refine blk 7 [(.aload_n 0, 0, 0, 0), (.getfield 38, 7, 15, 0), (.iload_n 2, 0, 0, 0), (.aload_n 0, 0, 0, 0)] [] (by decide +kernel) rfl (pc' := 261) (ls' := [some (.ref 72), some (.int (nI (2 * n - 2))), some (.int (nI k)), none]) (st' := [.ref 72, .int (nI k), .ref 81]) (M' := Y) rfl ⟨trivial, rfl, trivial, trivial, trivial⟩ ?_
      have hb1 := (j1.1 (kidF n h k).1 (by omega))
      have hb2 := (j1.1 (kidF n h k).2 (by omega))
      have w1 := hwd (kidF n h k).1 (by omega)
      have w2 := hwd (kidF n h k).2 (by omega)
      have hz := hist_sz hn5 (show h.length < n by omega) hh (k := k) (by omega) (by omega)
      have E72 : ∀ f, (f < 25 ∨ 28 < f) → f ≠ 31 → Y 72 f = M 72 f := fun f h1 h2 => by rw [y3 f (by omega) (by omega), x3 f (by omega) (by omega)]; exact j2.1 f h1 h2
      have EZ : ∀ z, z ≠ 72 → z ≠ 90 → z ≠ 91 → Y z = N z := fun z h1 h2 h3 => by rw [y5 z h1 h3, x5 z h1 h2]
      have hst := fun r F => mg_step (D := Y) (F := F) (r := r) hn5 (show h.length < n by omega) hh (show n ≤ k by omega) (by omega) hwd hdat (hmg k (by omega) (by omega)) (by rw [y3 25 (by omega) (by omega), x1]; exact (hTN.2.2.1 _ (by omega)).1) (by rw [y1, x5 82 (by decide) (by decide)]; exact (hTN.2.2.1 _ (by omega)).1) (fun w hw hx c hc => by rw [y5 90 (by decide) (by decide), x4 _ (by omega)]; exact hb1.2 w hw hx c hc) (fun w hw hx c hc => by rw [y4 _ (by omega), x5 84 (by decide) (by decide)]; exact hb2.2 w hw hx c hc) (fun a ha => by rw [EZ 39 (by decide) (by decide) (by decide), j2.2 39 (by decide) (by decide) (by decide) (by decide) (by decide) (by decide)]; exact hf a ha) (fun a ha => by rw [EZ 77 (by decide) (by decide) (by decide), j2.2 77 (by decide) (by decide) (by decide) (by decide) (by decide) (by decide)]; exact h77 a ha) (by rw [E72 6 (by omega) (by omega)]; exact h6) (by rw [E72 7 (by omega) (by omega)]; exact h7)
      refine g_callV (s_mmerge Y (p := wd (kidF n h k).1) (q := wd (kidF n h k).2) (by omega) (by omega) (by omega) (hst none Y).1 (by rw [y3 27 (by omega) (by omega), x2]; exact hb1.1) (by rw [y2, x5 83 (by decide) (by decide)]; exact hb2.1)) ok_X7_align_X7_merge (by decide +kernel) rfl (c := 7) rfl (by decide) rfl (Nat.le_of_ble_eq_true rfl) (fun r F hF => ?_) rfl
      obtain ⟨t1, t2, t3⟩ := (hst r F).2 hF
      have hfr := merge_fr hF
      rw [← t1]
      show G _ 264 [some (.ref 72), some (.int (nI (2 * n - 2))), some (.int (nI k)), none] [.int (wt k), .int (nI k), .ref 81] F _
      refine blk 7 [(.iastore, 0, 0, 0), (.aload_n 0, 0, 0, 0), (.getfield 44, 7, 17, 0), (.iload_n 2, 0, 0, 0), (.aload_n 0, 0, 0, 0), (.getfield 161, 7, 31, 0), (.iastore, 0, 0, 0), (.iconst 0, 0, 0, (nI 0)), (.istore_n 3, 0, 0, 0)] [k, k] (by decide +kernel) rfl (pc' := 277) (ls' := [some (.ref 72), some (.int (nI (2 * n - 2))), some (.int (nI k)), some (.int (nI 0))]) (st' := []) (M' := stm (stm F 81 k (wt k)) 83 k (F 72 31)) rfl ⟨⟨rfl, (by show _ < 9; omega), by decide⟩, trivial, rfl, trivial, trivial, rfl, ⟨rfl, (by show _ < 9; omega), by decide⟩, trivial, trivial, trivial⟩ ?_
      refine G.sub (ls' := [some (.ref 72), some (.int (nI (2 * n - 2))), some (.int (nI k)), some (.int (nI 0))]) ?_ ⟨rfl, rfl, rfl, rfl, trivial⟩
      refine l_mg3 (B := stm (stm F 81 k (wt k)) 83 k (F 72 31)) (by omega) (fun N' q1 q2 q3 => l_mg4 (ih (d - 1) (by omega) (k + 1) N' (by omega) (by omega) (by omega) ⟨fun a ha => ?_, fun j h1 h2 => ?_⟩ ⟨fun f h1 h2 => ?_, fun z h1 h2 h3 h4 h5 h6 => ?_⟩)) _ 0 _ rfl (by omega) (fun x h => absurd h (by omega)) (fun _ _ => rfl) (fun _ _ => rfl)
      · by_cases e : a = k
        · subst e
          refine ⟨?_, fun w hw hx c hc => ?_⟩
          · rw [q3 83 (by decide), stm_self]; exact t2
          · have l1 := hwd a (by omega)
            rw [q1 (60 * w + c) (by omega), stm_ne (by decide), stm_ne (by decide)]; exact t3 w hw hx c hc
        · have g := j1.1 a (by omega)
          refine ⟨?_, fun w hw hx c hc => ?_⟩
          · rw [q3 83 (by decide), stm_off e, stm_ne (by decide), hfr.2 83 (by decide) (by decide) (by decide), EZ 83 (by decide) (by decide) (by decide)]; exact g.1
          · have l1 := hwd a (by omega)
            have l2 := (hist_small hn5 (show h.length < n by omega) hh (a := a) (by omega)).2.1
            rw [q2 _ (fun x hx => by omega), stm_ne (by decide), stm_ne (by decide), hfr.2 84 (by decide) (by decide) (by decide), EZ 84 (by decide) (by decide) (by decide)]; exact g.2 w hw hx c hc
      · rw [q3 81 (by decide), stm_ne (by decide)]
        by_cases e : j = k
        · subst e; rw [stm_self]
        · rw [stm_off e, hfr.2 81 (by decide) (by decide) (by decide), EZ 81 (by decide) (by decide) (by decide)]; exact j1.2 j h1 (by omega)
      · rw [q3 72 (by decide), stm_ne (by decide), stm_ne (by decide), hfr.1 f h2]; exact E72 f h1 h2
      · rw [q3 z h5, stm_ne h4, stm_ne h3, hfr.2 z h2 h1 (by omega), EZ z h1 (by omega) (by omega)]; exact j2.2 z h1 h2 h3 h4 h5 h6
theorem l_mg5 {B : Mem} {n : Nat} {Post : Option Value → Mem → Prop} (hn1 : 1 ≤ n) (hn5 : n ≤ 5) (hp : ∀ N, (∀ x, x < 300 → N 89 x = B 84 (300 * (2 * n - 2) + x)) → (∀ z, z ≠ 89 → N z = B z) → Post (some (.int (N 72 23))) (stm N 72 11 (nI 1))) : ∀ d x N, d = 300 - x → x ≤ 300 → (∀ y, y < x → N 89 y = B 84 (300 * (2 * n - 2) + y)) → (∀ z, z ≠ 89 → N z = B z) → G mX7_align 326 [some (.ref 72), some (.int (nI (2 * n - 2))), some (.int (nI x)), none] [] N Post := by
  intro d
  induction d using Nat.strongRecOn with
  | ind d ih =>
    intro x N hd hx j1 j2
    refine blk 7 [(.iload_n 2, 0, 0, 0), (.sipush 300, 0, 0, (nI 300))] [] (by decide +kernel) rfl (pc' := 330) (ls' := [some (.ref 72), some (.int (nI (2 * n - 2))), some (.int (nI x)), none]) (st' := [.int (nI 300), .int (nI x)]) (M' := N) rfl ⟨trivial, trivial, trivial⟩ ?_
    refine g_icmp_ge (off := 27) (tgt := 357) (by decide +kernel) (by decide) (fun c1 => ?_) (fun c1 => ?_)
    · have nc1 : 300 ≤ x := (nI_leI (by omega) (by omega)).mp (by simpa only [nI_add, pk_mul, nI_s1, n0_lit] using c1)
      refine blk 7 [(.aload_n 0, 0, 0, 0), (.iconst 1, 0, 0, (nI 1)), (.putfield 89, 7, 11, 0), (.aload_n 0, 0, 0, 0), (.getfield 93, 7, 23, 0)] [] (by decide +kernel) rfl (pc' := 366) (ls' := [some (.ref 72), some (.int (nI (2 * n - 2))), some (.int (nI x)), none]) (st' := [.int (N 72 23)]) (M' := stm N 72 11 (nI 1)) rfl ⟨trivial, trivial, ⟨rfl, Or.inr rfl⟩, trivial, rfl, trivial⟩ ?_
      have e : x = 300 := by omega
      subst e
      exact g_ireturn (by decide +kernel) rfl rfl (hp N j1 j2)
    · have nc1 : x < 300 := by
        have z : ¬ nI 300 ≤ nI x := by simpa only [nI_add, pk_mul, nI_s1, n0_lit] using c1
        rw [nI_leI (by omega) (by omega)] at z
        omega
      refine blk 7 [(.aload_n 0, 0, 0, 0), (.getfield 62, 7, 24, 0), (.iload_n 2, 0, 0, 0), (.aload_n 0, 0, 0, 0), (.getfield 47, 7, 18, 0), (.sipush 300, 0, 0, (nI 300)), (.iload_n 1, 0, 0, 0), (.imul, 0, 0, 0), (.iload_n 2, 0, 0, 0), (.iadd, 0, 0, 0), (.iaload, 0, 0, 0), (.iastore, 0, 0, 0), (.iinc 2 1, 0, 0, (nI 1)), (.goto (-28), 326, 0, 0)] [300 * (2 * n - 2) + x, x] (by decide +kernel) rfl (pc' := 326) (ls' := [some (.ref 72), some (.int (nI (2 * n - 2))), some (.int (nI x + nI 1)), none]) (st' := []) (M' := stm N 89 x (N 84 (300 * (2 * n - 2) + x))) rfl ⟨trivial, rfl, trivial, trivial, rfl, trivial, trivial, trivial, trivial, trivial, ⟨(by simp only [nI_add, pk_mul, nI_s1, Nat.reduceAdd, Nat.reduceMul]), (by show _ < 2700; omega)⟩, ⟨rfl, (by show _ < 300; omega), by decide⟩, trivial, trivial, trivial⟩ ?_
      refine G.sub (ls' := [some (.ref 72), some (.int (nI (2 * n - 2))), some (.int (nI (x + 1))), none]) ?_ ⟨rfl, rfl, congrArg (fun z => some (Value.int z)) (by simp only [nI_add, nI_s1]), trivial⟩
      refine ih (d - 1) (by omega) (x + 1) _ (by omega) (by omega) (fun y hy => ?_) (fun z hz => by rw [stm_ne hz]; exact j2 z hz)
      by_cases e : y = x
      · subst e; rw [stm_self, j2 84 (by decide)]
      · rw [stm_off (by omega)]; exact j1 y (by omega)
