/-! Arrays.fill; Side.readRow, Side.read -/
abbrev mJ7_fill : MI := (yJ7_fill_53178, cJ7_fill_53178, 4, none, 0, 0)
theorem g_alen {q : MI} {pc : Nat} {ls : List (Option Value)} {st : List Value} {M : Mem} {Post : Option Value → Mem → Prop} {t : Nat} (hd : decode q.cc pc = .ok (.arraylength, 1)) (ht : t < 96) (h8 : kd t = 8) (kk : G q (pc + 1) ls (.int (nI (al t)) :: st) M Post) : G q pc ls (.ref t :: st) M Post := by
  intro D κ ad p l e s m args below meth cd H locs la C hW hS hla
  have hcell := hW.1 t ht
  unfold cellAt at hcell
  rw [if_pos h8] at hcell
  exact W.alen C.1 C.2.1 hcell ((C.2.2.2.2.2.2.2.1.2 0 _ rfl).1 (al t) _) (by rw [arrV_size]; rfl) rfl rfl hd (kk D κ ad p l e s m args below meth cd H locs la C hW hS hla)
def fillP (M : Mem) (t : Nat) (v : Int32) : Option Value → Mem → Prop := fun r N => r = none ∧ (∀ k, k < al t → N t k = v) ∧ ∀ z, z ≠ t → N z = M z
theorem l_fill {M0 : Mem} {t : Nat} {v : Int32} (ht : t < 96) (h8 : kd t = 8) : ∀ d i M, d = al t - i → i ≤ al t → (∀ k, k < i → M t k = v) → (∀ z, z ≠ t → M z = M0 z) → G mJ7_fill 5 [some (.ref t), some (.int v), some (.int (nI i)), some (.int (nI (al t)))] [] M (fillP M0 t v) := by
  have hb := @al_big t
  intro d
  induction d using Nat.strongRecOn with
  | ind d ih =>
    intro i M hd hi j1 j2
    refine g_iload_n (n := 2) (by decide +kernel) rfl ?_
    refine g_iload_n (n := 3) (by decide +kernel) rfl ?_
    refine g_icmp_ge (off := 13) (tgt := 20) (by decide +kernel) (by decide) (fun c => ?_) (fun c => ?_)
    · have e : i = al t := by
        have := (nI_leI (by omega) (by omega)).mp c
        omega
      subst e
      exact g_return (by decide +kernel) rfl ⟨rfl, j1, j2⟩
    · have hlt : i < al t := by
        rw [nI_leI (by omega) (by omega)] at c
        omega
      refine g_aload_n (n := 0) (by decide +kernel) rfl ?_
      refine g_iload_n (n := 2) (by decide +kernel) rfl ?_
      refine g_iload_n (n := 1) (by decide +kernel) rfl ?_
      refine g_iastore (by decide +kernel) (in_al hlt) ht ?_
      rw [cl_al hlt]
      refine g_iinc (n := 2) (d := 1) (v := nI 1) (by decide +kernel) rfl (by decide) (by decide) ?_
      refine g_goto (off := -12) (tgt := 5) (by decide +kernel) (by decide) ?_
      refine G.sub (ls' := [some (.ref t), some (.int v), some (.int (nI (i + 1))), some (.int (nI (al t)))]) ?_ ⟨rfl, rfl, congrArg (fun z => some (Value.int z)) (nI_add _ _), rfl, trivial⟩
      refine ih (d - 1) (by omega) (i + 1) _ (by omega) (by omega) (fun k hk => ?_) (fun z hz => ?_)
      · by_cases e : k = i
        · subst e; rw [stm_self]
        · rw [stm_off e]; exact j1 k (by omega)
      · rw [stm_ne hz]; exact j2 z hz
theorem s_fill (M : Mem) {t : Nat} (v : Int32) (ht : t < 96) (h8 : kd t = 8) : Spec mJ7_fill [.ref t, .int v] M (fillP M t v) := by
  refine Spec.of (by decide) (by simp [Value.category]) (Nat.le_of_ble_eq_true rfl) ?_
  refine g_iconst (n := 0) (v := nI 0) (by decide +kernel) (by decide) ?_
  refine g_istore_n (n := 2) (by decide +kernel) (by decide) ?_
  refine g_aload_n (n := 0) (by decide +kernel) rfl ?_
  refine g_alen (by decide +kernel) ht h8 ?_
  refine g_istore_n (n := 3) (by decide +kernel) (by decide) ?_
  exact l_fill ht h8 _ 0 M rfl (by omega) (fun k h => absurd h (by omega)) (fun z _ => rfl)
theorem ok_fill : okS mX4_read mJ7_fill 18 2 := ⟨TB_in (by decide +kernel) (by decide +kernel), TB_in (by decide +kernel) (by decide +kernel), TB_in (by decide +kernel) (by decide +kernel), TB_in (by decide +kernel) (by decide +kernel), by decide +kernel, by decide +kernel, by decide +kernel⟩
/-- what reading a row of weight f into a side does, in its first m columns -/
def rrJ (M N : Mem) (s t : Nat) (f : Int32) (m : Nat) : Prop := (∀ k x, k < m → x < 4 → N (s + 1) (k * 4 + x) = M (s + 1) (k * 4 + x) + if M (t + 5) k = nI x then f else 0) ∧ (∀ k, k < m → N (s + 2) k = M (s + 2) k + if M (t + 5) k = -1 then 0 else f)
def rrK (M N : Mem) (s : Nat) (m : Nat) : Prop := (∀ k x, m ≤ k → x < 4 → N (s + 1) (k * 4 + x) = M (s + 1) (k * 4 + x)) ∧ (∀ k, m ≤ k → N (s + 2) k = M (s + 2) k)
theorem nI_nm1 {x : Nat} (h : x < 2 ^ 31) : ¬ (-1 : Int32) = nI x := fun z => by
  have h1 := congrArg Int32.toInt z
  rw [nI_toInt h] at h1
  have h9 : (-1 : Int32).toInt = -1 := by decide
  omega
theorem ixr {j a : Nat} {x : Int32} (h : x = nI a) : nI j * nI 4 + x = nI (j * 4 + a) := by rw [h, pk_mul, nI_add]
theorem l_rrow5 {M0 : Mem} {t w : Nat} {f A : Int32} {Post : Option Value → Mem → Prop} (hk : kd t = 2) (ht : 20 < t) (hw : w ≤ 48) (hl : w ≤ al (t + 5)) (hc0 : ∀ k, k < w → okc (M0 (t + 5) k)) (hp : ∀ M, M 5 2 = A → M 5 3 = nI w → rrJ M0 M 5 t f w → (∀ z, (z < 5 ∨ 7 < z) → z ≠ 5 → M z = M0 z) → Post none M) : ∀ d j M, d = w - j → j ≤ w → M 5 2 = A → M 5 3 = nI w → rrJ M0 M 5 t f j → rrK M0 M 5 j → (∀ z, (z < 5 ∨ 7 < z) → z ≠ 5 → M z = M0 z) → G mX4_readRow 20 [some (.ref 5), some (.ref t), some (.int f), some (.int (nI j))] [] M Post := by
  intro d
  induction d using Nat.strongRecOn with
  | ind d ih =>
    intro j M hd hj i1 i2 i3b i3 i4
    have hc : ∀ k, k < w → okc (M (t + 5) k) := fun k h => by rw [i4 (t + 5) (by omega) (by omega)]; exact hc0 k h
    refine blk 4 [(.iload_n 3, 0, 0, 0), (.aload_n 0, 0, 0, 0), (.getfield 47, 4, 3, 0)] [] (by decide +kernel) rfl (pc' := 25) (ls' := [some (.ref 5), some (.ref t), some (.int f), some (.int (nI j))]) (st' := [.int (M 5 3), .int (nI j)]) (M' := M) rfl ⟨trivial, trivial, rfl, trivial⟩ ?_
    refine g_icmp_ge (off := 48) (tgt := 73) (by decide +kernel) (by decide) (fun c1 => ?_) (fun c1 => ?_)
    · have nc1 : w ≤ j := (nI_leI (by omega) (by omega)).mp (by simpa only [i2, nI_add, pk_mul, nI_s1, n0_lit] using c1)
      have e : j = w := by omega
      subst e
      exact g_return (by decide +kernel) rfl (hp M i1 i2 i3b i4)
    · have nc1 : j < w := by
        have z : ¬ nI w ≤ nI j := by simpa only [i2, nI_add, pk_mul, nI_s1, n0_lit] using c1
        rw [nI_leI (by omega) (by omega)] at z
        omega
      refine blk 4 [(.aload_n 1, 0, 0, 0), (.getfield 48, 2, 0, 0), (.iload_n 3, 0, 0, 0), (.iaload, 0, 0, 0), (.iconst (-1), 0, 0, (-1))] [j] (by decide +kernel) rfl (pc' := 35) (ls' := [some (.ref 5), some (.ref t), some (.int f), some (.int (nI j))]) (st' := [.int (-1), .int (M (t + 5) j)]) (M' := M) rfl ⟨trivial, (by assumption), trivial, ⟨rfl, (by omega)⟩, trivial, trivial⟩ ?_
      refine g_icmp_eq (off := 32) (tgt := 67) (by decide +kernel) (by decide) (fun c2 => ?_) (fun c2 => ?_)
      · refine blk 4 [(.iinc 3 1, 0, 0, (nI 1)), (.goto (-50), 20, 0, 0)] [] (by decide +kernel) rfl (pc' := 20) (ls' := [some (.ref 5), some (.ref t), some (.int f), some (.int (nI j + nI 1))]) (st' := []) (M' := M) rfl ⟨trivial, trivial, trivial⟩ ?_
        have et : M (t + 5) = M0 (t + 5) := i4 _ (by omega) (by omega)
        refine G.sub (ls' := [some (.ref 5), some (.ref t), some (.int f), some (.int (nI (j + 1)))]) ?_ ⟨rfl, rfl, rfl, congrArg (fun z => some (Value.int z)) (by simp only [nI_add, nI_s1]), trivial⟩
        refine ih (d - 1) (by omega) (j + 1) _ (by omega) (by omega) i1 i2 ⟨fun a x ha hx => ?_, fun a ha => ?_⟩ ⟨fun a x ha hx => i3.1 a x (by omega) hx, fun a ha => i3.2 a (by omega)⟩ i4
        · by_cases e : a = j
          · subst e; rw [i3.1 a x (Nat.le_refl a) hx, ← et, if_neg (by rw [c2]; exact nI_nm1 (by omega)), Int32.add_zero]
          · exact i3b.1 a x (by omega) hx
        · by_cases e : a = j
          · subst e; rw [i3.2 a (Nat.le_refl a), ← et, if_pos c2, Int32.add_zero]
          · exact i3b.2 a (by omega)
      · have ex := okc_cd (hc j (by omega)) c2
        refine blk 4 [(.aload_n 0, 0, 0, 0), (.getfield 11, 4, 0, 0), (.iload_n 3, 0, 0, 0), (.iconst 4, 0, 0, (nI 4)), (.imul, 0, 0, 0), (.aload_n 1, 0, 0, 0), (.getfield 48, 2, 0, 0), (.iload_n 3, 0, 0, 0), (.iaload, 0, 0, 0), (.iadd, 0, 0, 0), (.dup2, 0, 0, 0), (.iaload, 0, 0, 0), (.iload_n 2, 0, 0, 0), (.iadd, 0, 0, 0), (.iastore, 0, 0, 0), (.aload_n 0, 0, 0, 0), (.getfield 15, 4, 1, 0), (.iload_n 3, 0, 0, 0), (.dup2, 0, 0, 0), (.iaload, 0, 0, 0), (.iload_n 2, 0, 0, 0), (.iadd, 0, 0, 0), (.iastore, 0, 0, 0), (.iinc 3 1, 0, 0, (nI 1)), (.goto (-50), 20, 0, 0)] [j, j * 4 + cd (M (t + 5) j), j * 4 + cd (M (t + 5) j), j, j] (by decide +kernel) rfl (pc' := 20) (ls' := [some (.ref 5), some (.ref t), some (.int f), some (.int (nI j + nI 1))]) (st' := []) (M' := stm (stm M 6 (j * 4 + cd (M (t + 5) j)) ((M 6 (j * 4 + cd (M (t + 5) j))) + f)) 7 j ((M 7 j) + f)) rfl ⟨trivial, rfl, trivial, trivial, trivial, trivial, (by assumption), trivial, ⟨rfl, (by omega)⟩, trivial, ⟨rfl, rfl⟩, ⟨(ixr ex.1), (by show _ < 192; omega)⟩, trivial, trivial, ⟨(ixr ex.1), (by show _ < 192; omega), by decide⟩, trivial, rfl, trivial, ⟨rfl, rfl⟩, ⟨rfl, (by show _ < 48; omega)⟩, trivial, trivial, ⟨rfl, (by show _ < 48; omega), by decide⟩, trivial, trivial, trivial⟩ ?_
        have et : M (t + 5) = M0 (t + 5) := i4 _ (by omega) (by omega)
        refine G.sub (ls' := [some (.ref 5), some (.ref t), some (.int f), some (.int (nI (j + 1)))]) ?_ ⟨rfl, rfl, rfl, congrArg (fun z => some (Value.int z)) (by simp only [nI_add, nI_s1]), trivial⟩
        refine ih (d - 1) (by omega) (j + 1) _ (by omega) (by omega) i1 i2 ⟨fun a x ha hx => ?_, fun a ha => ?_⟩ ⟨fun a x ha hx => ?_, fun a ha => ?_⟩ (fun z h1 h2 => ?_)
        · rw [stm_ne (by omega)]
          by_cases e : a * 4 + x = j * 4 + cd (M (t + 5) j)
          · rw [e, stm_self, ← e]
            have e1 : a = j := by omega
            have e2 : x = cd (M (t + 5) j) := by omega
            subst e1
            rw [i3.1 a x (Nat.le_refl a) hx, ← et, if_pos (by rw [e2]; exact ex.1)]
          · rw [stm_off e]
            by_cases ea : a = j
            · subst ea
              rw [i3.1 a x (Nat.le_refl a) hx, ← et, if_neg (fun z => e (by rw [ex.1] at z; have := (nI_eq (by omega) (by omega)).mp z; omega)), Int32.add_zero]
            · exact i3b.1 a x (by omega) hx
        · by_cases e : a = j
          · subst e; rw [stm_self, show M 7 a = M0 (5 + 2) a from i3.2 a (Nat.le_refl a), ← et, if_neg c2]
          · rw [stm_off e, stm_ne (by omega)]; exact i3b.2 a (by omega)
        · rw [stm_ne (by omega), stm_off (by omega)]; exact i3.1 a x (by omega) hx
        · rw [stm_off (by omega), stm_ne (by omega)]; exact i3.2 a (by omega)
        · rw [stm_ne (by omega), stm_ne (by omega)]; exact i4 z h1 h2
def rrowP (M : Mem) (s t w : Nat) (f : Int32) : Option Value → Mem → Prop := fun r N => r = none ∧ N s 2 = M s 2 + f ∧ N s 3 = nI w ∧ rrJ M N s t f w ∧ ∀ z, (z < s ∨ s + 2 < z) → z ≠ s → N z = M z
theorem s_rrow5 (M : Mem) {t w : Nat} (f : Int32) (hk : kd t = 2) (ht : 20 < t) (hw : w ≤ 48) (hl : w ≤ al (t + 5)) (hwd : M t 1 = nI w) (hc : ∀ k, k < w → okc (M (t + 5) k)) : Spec mX4_readRow [.ref 5, .ref t, .int f] M (rrowP M 5 t w f) := by
  refine Spec.of (by decide) (by simp [Value.category]) (Nat.le_of_ble_eq_true rfl) ?_
  refine blk 4 [(.aload_n 0, 0, 0, 0), (.dup, 0, 0, 0), (.getfield 24, 4, 2, 0), (.iload_n 2, 0, 0, 0), (.iadd, 0, 0, 0), (.putfield 24, 4, 2, 0), (.aload_n 0, 0, 0, 0), (.aload_n 1, 0, 0, 0), (.getfield 42, 2, 1, 0), (.putfield 47, 4, 3, 0), (.iconst 0, 0, 0, (nI 0)), (.istore_n 3, 0, 0, 0)] [] (by decide +kernel) rfl (pc' := 20) (ls' := [some (.ref 5), some (.ref t), some (.int f), some (.int (nI 0))]) (st' := []) (M' := stm (stm M 5 2 ((M 5 2) + f)) 5 3 ((stm M 5 2 ((M 5 2) + f)) t 1)) rfl ⟨trivial, rfl, rfl, trivial, trivial, rfl, trivial, trivial, (by assumption), rfl, trivial, trivial, trivial⟩ ?_
  rw [show stm M 5 2 (M 5 2 + f) t 1 = M t 1 by rw [stm_ne (by omega)]]
  have e2 : (stm (stm M 5 2 (M 5 2 + f)) 5 3 (M t 1)) 5 2 = M 5 2 + f := by rw [stm_off (by decide), stm_self]
  have e0 : ∀ z, z ≠ 5 → (stm (stm M 5 2 (M 5 2 + f)) 5 3 (M t 1)) z = M z := fun z hz => by rw [stm_ne hz, stm_ne hz]
  refine l_rrow5 (M0 := M) hk ht hw hl hc (fun N h1 h2 h3 h4 => ⟨rfl, h1, h2, h3, h4⟩) _ 0 _ rfl (by omega) e2 (by rw [stm_self]; exact hwd) ⟨fun k x h => absurd h (by omega), fun k h => absurd h (by omega)⟩ ⟨fun k x _ _ => by rw [e0 _ (by omega)], fun k _ => by rw [e0 _ (by omega)]⟩ (fun z _ h => e0 z h)
/-- a group's weights: of all its rows; of those with letter x in column k; of those with a letter there -/
def whF (M : Mem) (S : Int32) (v : Nat) : Nat → Int32 := fun i => if hb S i = 0 then 0 else M v i
def letF (M : Mem) (B : Nat) (S : Int32) (v k x : Nat) : Nat → Int32 := fun i => if ¬ hb S i = 0 ∧ M (B + i + 5) k = nI x then M v i else 0
def preF (M : Mem) (B : Nat) (S : Int32) (v k : Nat) : Nat → Int32 := fun i => if ¬ hb S i = 0 ∧ ¬ M (B + i + 5) k = -1 then M v i else 0
def readP (M : Mem) (s B : Nat) (S : Int32) (v w : Nat) : Option Value → Mem → Prop := fun r N => r = none ∧ N s 2 = psum (whF M S v) 5 ∧ N s 3 = nI w ∧ (∀ k x, k < w → x < 4 → N (s + 1) (k * 4 + x) = psum (letF M B S v k x) 5) ∧ (∀ k, k < w → N (s + 2) k = psum (preF M B S v k) 5) ∧ ∀ z, (z < s ∨ s + 2 < z) → z ≠ s → N z = M z
theorem l_read5_35 {M0 : Mem} {S : Int32} {v w : Nat} (hv : al v = 5) (hv2 : 10 < v) (hw : w ≤ 48) (hW : ∀ a, a < 5 → ¬ hb S a = 0 → M0 (51 + a) 1 = nI w) (hc : ∀ a k, a < 5 → ¬ hb S a = 0 → k < w → okc (M0 (51 + a + 5) k)) (hS : ∃ a, a < 5 ∧ ¬ hb S a = 0) : ∀ d i M, d = 5 - i → i ≤ 5 → M 5 2 = psum (whF M0 S v) i → ((∃ a, a < i ∧ ¬ hb S a = 0) → M 5 3 = nI w) → ((∀ k x, k < w → x < 4 → M (5 + 1) (k * 4 + x) = psum (letF M0 51 S v k x) i) ∧ (∀ k, k < w → M (5 + 2) k = psum (preF M0 51 S v k) i)) → (∀ z, (z < 5 ∨ 5 + 2 < z) → z ≠ 5 → M z = M0 z) → G mX4_read 24 [some (.ref 5), some (.ref 35), some (.int S), some (.ref v), some (.int (nI i))] [] M (readP M0 5 51 S v w) := by
  intro d
  induction d using Nat.strongRecOn with
  | ind d ih =>
    intro i M hd hj i1 i2 i3 i5
    refine blk 4 [(.iload 4, 0, 0, 0), (.iconst 5, 0, 0, (nI 5))] [] (by decide +kernel) rfl (pc' := 27) (ls' := [some (.ref 5), some (.ref 35), some (.int S), some (.ref v), some (.int (nI i))]) (st' := [.int (nI 5), .int (nI i)]) (M' := M) rfl ⟨trivial, trivial, trivial⟩ ?_
    refine g_icmp_ge (off := 33) (tgt := 60) (by decide +kernel) (by decide) (fun c1 => ?_) (fun c1 => ?_)
    · have nc1 : 5 ≤ i := (nI_leI (by omega) (by omega)).mp (by simpa only [nI_add, pk_mul, nI_s1, n0_lit] using c1)
      have e : i = 5 := by omega
      subst e
      exact g_return (by decide +kernel) rfl ⟨rfl, i1, i2 hS, i3.1, i3.2, i5⟩
    · have nc1 : i < 5 := by
        have z : ¬ nI 5 ≤ nI i := by simpa only [nI_add, pk_mul, nI_s1, n0_lit] using c1
        rw [nI_leI (by omega) (by omega)] at z
        omega
      refine blk 4 [(.iload_n 2, 0, 0, 0), (.iload 4, 0, 0, 0)] [] (by decide +kernel) rfl (pc' := 33) (ls' := [some (.ref 5), some (.ref 35), some (.int S), some (.ref v), some (.int (nI i))]) (st' := [.int (nI i), .int S]) (M' := M) rfl ⟨trivial, trivial, trivial⟩ ?_
      refine g_callN (index := 28) (s_holds _ S i) rfl (by decide) ⟨ok_X6_holds.1, ok_X6_holds.2.1, ok_X6_holds.2.2.1, ok_X6_holds.2.2.2, by decide +kernel, by decide +kernel⟩ (by decide +kernel) rfl (Nat.le_of_ble_eq_true rfl) (fun r M' h => ?_) rfl
      obtain ⟨hr, hM⟩ := h
      rw [hr, hM]
      show G _ 36 [some (.ref 5), some (.ref 35), some (.int S), some (.ref v), some (.int (nI i))] [.int (hb S i)] M _
      refine g_if_eq (off := 18) (tgt := 54) (by decide +kernel) (by decide) (fun c2 => ?_) (fun c2 => ?_)
      · refine blk 4 [(.iinc 4 1, 0, 0, (nI 1)), (.goto (-33), 24, 0, 0)] [] (by decide +kernel) rfl (pc' := 24) (ls' := [some (.ref 5), some (.ref 35), some (.int S), some (.ref v), some (.int (nI i + nI 1))]) (st' := []) (M' := M) rfl ⟨trivial, trivial, trivial⟩ ?_
        refine G.sub (ls' := [some (.ref 5), some (.ref 35), some (.int S), some (.ref v), some (.int (nI (i + 1)))]) ?_ ⟨rfl, rfl, rfl, rfl, congrArg (fun z => some (Value.int z)) (by simp only [nI_add, nI_s1]), trivial⟩
        refine ih (d - 1) (by omega) (i + 1) M (by omega) (by omega) ?_ (fun h => i2 ?_) ⟨fun k x hk hx => ?_, fun k hk => ?_⟩ i5
        · rw [psum, show whF M0 S v i = 0 by simp only [whF]; rw [if_pos c2], Int32.add_zero]; exact i1
        · obtain ⟨a, h1, h2⟩ := h
          exact ⟨a, by rcases Nat.lt_or_ge a i with z | z; exact z; exact absurd (show a = i by omega ▸ c2) (by rw [show a = i by omega] at h2; exact absurd c2 h2), h2⟩
        · rw [psum, show letF M0 51 S v k x i = 0 by simp only [letF]; rw [if_neg (fun z => z.1 c2)], Int32.add_zero]; exact i3.1 k x hk hx
        · rw [psum, show preF M0 51 S v k i = 0 by simp only [preF]; rw [if_neg (fun z => z.1 c2)], Int32.add_zero]; exact i3.2 k hk
      · refine blk 4 [(.aload_n 0, 0, 0, 0), (.aload_n 1, 0, 0, 0), (.getfield 32, 3, 0, 0), (.iload 4, 0, 0, 0), (.aaload, 0, 0, 0), (.aload_n 3, 0, 0, 0), (.iload 4, 0, 0, 0), (.iaload, 0, 0, 0)] [i, i] (by decide +kernel) rfl (pc' := 51) (ls' := [some (.ref 5), some (.ref 35), some (.int S), some (.ref v), some (.int (nI i))]) (st' := [.int (M v i), .ref (51 + i), .ref 5]) (M' := M) rfl ⟨trivial, trivial, rfl, trivial, ⟨rfl, (by show _ < 5; omega)⟩, trivial, trivial, ⟨rfl, (by rw [hv]; omega)⟩, trivial⟩ ?_
        have eB : M (51 + i) = M0 (51 + i) := i5 _ (by omega) (by omega)
        have eC : M (51 + i + 5) = M0 (51 + i + 5) := i5 _ (by omega) (by omega)
        refine g_callV (s_rrow5 M (t := 51 + i) (w := w) (M v i) (kd51 (by omega)) (by omega) hw (by rw [al56 (by omega)]; omega) (by rw [eB]; exact hW i (by omega) c2) (fun k h => by rw [eC]; exact hc i k (by omega) c2 h)) ok_X4_read_X4_readRow (by decide +kernel) rfl (c := 4) rfl (by decide) rfl (Nat.le_of_ble_eq_true rfl) (fun r N h => ?_) rfl
        obtain ⟨hr, q1, q2, q3, q4⟩ := h
        rw [hr]
        show G _ 54 [some (.ref 5), some (.ref 35), some (.int S), some (.ref v), some (.int (nI i))] [] N _
        refine blk 4 [(.iinc 4 1, 0, 0, (nI 1)), (.goto (-33), 24, 0, 0)] [] (by decide +kernel) rfl (pc' := 24) (ls' := [some (.ref 5), some (.ref 35), some (.int S), some (.ref v), some (.int (nI i + nI 1))]) (st' := []) (M' := N) rfl ⟨trivial, trivial, trivial⟩ ?_
        refine G.sub (ls' := [some (.ref 5), some (.ref 35), some (.int S), some (.ref v), some (.int (nI (i + 1)))]) ?_ ⟨rfl, rfl, rfl, rfl, congrArg (fun z => some (Value.int z)) (by simp only [nI_add, nI_s1]), trivial⟩
        refine ih (d - 1) (by omega) (i + 1) N (by omega) (by omega) ?_ (fun _ => q2) ⟨fun k x hk hx => ?_, fun k hk => ?_⟩ (fun z h1 h2 => ?_)
        · rw [q1, i1, psum, show whF M0 S v i = M v i by simp only [whF]; rw [if_neg c2, i5 v (by omega) (by omega)]]
        · rw [q3.1 k x hk hx, i3.1 k x hk hx, psum, eC]; congr 1; simp only [letF]; rw [← i5 v (by omega) (by omega)]; by_cases e : M0 (51 + i + 5) k = nI x
          · rw [if_pos e, if_pos ⟨c2, e⟩]
          · rw [if_neg e, if_neg (fun z => e z.2)]
        · rw [q3.2 k hk, i3.2 k hk, psum, eC]; congr 1; simp only [preF]; rw [← i5 v (by omega) (by omega)]; by_cases e : M0 (51 + i + 5) k = -1
          · rw [if_pos e, if_neg (fun z => z.2 e)]
          · rw [if_neg e, if_pos ⟨c2, e⟩]
        · rw [q4 z h1 h2]; exact i5 z h1 h2
theorem s_read5_35 (M : Mem) (S : Int32) {v w : Nat} (hv : al v = 5) (hv2 : 10 < v) (hw : w ≤ 48) (hW : ∀ a, a < 5 → ¬ hb S a = 0 → M (51 + a) 1 = nI w) (hc : ∀ a k, a < 5 → ¬ hb S a = 0 → k < w → okc (M (51 + a + 5) k)) (hS : ∃ a, a < 5 ∧ ¬ hb S a = 0) : Spec mX4_read [.ref 5, .ref 35, .int S, .ref v] M (readP M 5 51 S v w) := by
  refine Spec.of (by decide) (by simp [Value.category]) (Nat.le_of_ble_eq_true rfl) ?_
  refine blk 4 [(.aload_n 0, 0, 0, 0), (.getfield 11, 4, 0, 0), (.iconst 0, 0, 0, (nI 0))] [] (by decide +kernel) rfl (pc' := 5) (ls' := [some (.ref 5), some (.ref 35), some (.int S), some (.ref v), none]) (st' := [.int (nI 0), .ref 6]) (M' := M) rfl ⟨trivial, rfl, trivial, trivial⟩ ?_
  refine g_callS (s_fill _ (t := 6) (nI 0) (by decide) rfl) ok_fill (by decide +kernel) rfl (Nat.le_of_ble_eq_true rfl) (fun r A hA => ?_) rfl
  obtain ⟨hr, A1, A2⟩ := hA
  rw [hr]
  show G _ 8 [some (.ref 5), some (.ref 35), some (.int S), some (.ref v), none] [] A _
  refine blk 4 [(.aload_n 0, 0, 0, 0), (.getfield 15, 4, 1, 0), (.iconst 0, 0, 0, (nI 0))] [] (by decide +kernel) rfl (pc' := 13) (ls' := [some (.ref 5), some (.ref 35), some (.int S), some (.ref v), none]) (st' := [.int (nI 0), .ref 7]) (M' := A) rfl ⟨trivial, rfl, trivial, trivial⟩ ?_
  refine g_callS (s_fill _ (t := 7) (nI 0) (by decide) rfl) ok_fill (by decide +kernel) rfl (Nat.le_of_ble_eq_true rfl) (fun r B hB => ?_) rfl
  obtain ⟨hr, B1, B2⟩ := hB
  rw [hr]
  show G _ 16 [some (.ref 5), some (.ref 35), some (.int S), some (.ref v), none] [] B _
  refine blk 4 [(.aload_n 0, 0, 0, 0), (.iconst 0, 0, 0, (nI 0)), (.putfield 24, 4, 2, 0), (.iconst 0, 0, 0, (nI 0)), (.istore 4, 0, 0, 0)] [] (by decide +kernel) rfl (pc' := 24) (ls' := [some (.ref 5), some (.ref 35), some (.int S), some (.ref v), some (.int (nI 0))]) (st' := []) (M' := stm B 5 2 (nI 0)) rfl ⟨trivial, trivial, rfl, trivial, trivial, trivial⟩ ?_
  have e0 : ∀ z, (z < 5 ∨ 5 + 2 < z) → z ≠ 5 → stm B 5 2 (nI 0) z = M z := fun z h1 h2 => by rw [stm_ne h2, B2 z (by omega), A2 z (by omega)]
  refine l_read5_35 hv hv2 hw hW hc hS _ 0 _ rfl (by omega) (by rw [stm_self]; exact nI_0) (fun h => absurd h (fun z => by obtain ⟨a, h, _⟩ := z; omega)) ⟨fun k x hk hx => ?_, fun k hk => ?_⟩ e0
  · rw [stm_ne (by omega), B2 _ (by omega), A1 _ (by show _ < 192; omega)]; exact nI_0
  · rw [stm_ne (by omega), B1 _ (by show _ < 48; omega)]; exact nI_0
theorem l_read5_37 {M0 : Mem} {S : Int32} {v w : Nat} (hv : al v = 5) (hv2 : 10 < v) (hw : w ≤ 48) (hW : ∀ a, a < 5 → ¬ hb S a = 0 → M0 (61 + a) 1 = nI w) (hc : ∀ a k, a < 5 → ¬ hb S a = 0 → k < w → okc (M0 (61 + a + 5) k)) (hS : ∃ a, a < 5 ∧ ¬ hb S a = 0) : ∀ d i M, d = 5 - i → i ≤ 5 → M 5 2 = psum (whF M0 S v) i → ((∃ a, a < i ∧ ¬ hb S a = 0) → M 5 3 = nI w) → ((∀ k x, k < w → x < 4 → M (5 + 1) (k * 4 + x) = psum (letF M0 61 S v k x) i) ∧ (∀ k, k < w → M (5 + 2) k = psum (preF M0 61 S v k) i)) → (∀ z, (z < 5 ∨ 5 + 2 < z) → z ≠ 5 → M z = M0 z) → G mX4_read 24 [some (.ref 5), some (.ref 37), some (.int S), some (.ref v), some (.int (nI i))] [] M (readP M0 5 61 S v w) := by
  intro d
  induction d using Nat.strongRecOn with
  | ind d ih =>
    intro i M hd hj i1 i2 i3 i5
    refine blk 4 [(.iload 4, 0, 0, 0), (.iconst 5, 0, 0, (nI 5))] [] (by decide +kernel) rfl (pc' := 27) (ls' := [some (.ref 5), some (.ref 37), some (.int S), some (.ref v), some (.int (nI i))]) (st' := [.int (nI 5), .int (nI i)]) (M' := M) rfl ⟨trivial, trivial, trivial⟩ ?_
    refine g_icmp_ge (off := 33) (tgt := 60) (by decide +kernel) (by decide) (fun c1 => ?_) (fun c1 => ?_)
    · have nc1 : 5 ≤ i := (nI_leI (by omega) (by omega)).mp (by simpa only [nI_add, pk_mul, nI_s1, n0_lit] using c1)
      have e : i = 5 := by omega
      subst e
      exact g_return (by decide +kernel) rfl ⟨rfl, i1, i2 hS, i3.1, i3.2, i5⟩
    · have nc1 : i < 5 := by
        have z : ¬ nI 5 ≤ nI i := by simpa only [nI_add, pk_mul, nI_s1, n0_lit] using c1
        rw [nI_leI (by omega) (by omega)] at z
        omega
      refine blk 4 [(.iload_n 2, 0, 0, 0), (.iload 4, 0, 0, 0)] [] (by decide +kernel) rfl (pc' := 33) (ls' := [some (.ref 5), some (.ref 37), some (.int S), some (.ref v), some (.int (nI i))]) (st' := [.int (nI i), .int S]) (M' := M) rfl ⟨trivial, trivial, trivial⟩ ?_
      refine g_callN (index := 28) (s_holds _ S i) rfl (by decide) ⟨ok_X6_holds.1, ok_X6_holds.2.1, ok_X6_holds.2.2.1, ok_X6_holds.2.2.2, by decide +kernel, by decide +kernel⟩ (by decide +kernel) rfl (Nat.le_of_ble_eq_true rfl) (fun r M' h => ?_) rfl
      obtain ⟨hr, hM⟩ := h
      rw [hr, hM]
      show G _ 36 [some (.ref 5), some (.ref 37), some (.int S), some (.ref v), some (.int (nI i))] [.int (hb S i)] M _
      refine g_if_eq (off := 18) (tgt := 54) (by decide +kernel) (by decide) (fun c2 => ?_) (fun c2 => ?_)
      · refine blk 4 [(.iinc 4 1, 0, 0, (nI 1)), (.goto (-33), 24, 0, 0)] [] (by decide +kernel) rfl (pc' := 24) (ls' := [some (.ref 5), some (.ref 37), some (.int S), some (.ref v), some (.int (nI i + nI 1))]) (st' := []) (M' := M) rfl ⟨trivial, trivial, trivial⟩ ?_
        refine G.sub (ls' := [some (.ref 5), some (.ref 37), some (.int S), some (.ref v), some (.int (nI (i + 1)))]) ?_ ⟨rfl, rfl, rfl, rfl, congrArg (fun z => some (Value.int z)) (by simp only [nI_add, nI_s1]), trivial⟩
        refine ih (d - 1) (by omega) (i + 1) M (by omega) (by omega) ?_ (fun h => i2 ?_) ⟨fun k x hk hx => ?_, fun k hk => ?_⟩ i5
        · rw [psum, show whF M0 S v i = 0 by simp only [whF]; rw [if_pos c2], Int32.add_zero]; exact i1
        · obtain ⟨a, h1, h2⟩ := h
          exact ⟨a, by rcases Nat.lt_or_ge a i with z | z; exact z; exact absurd (show a = i by omega ▸ c2) (by rw [show a = i by omega] at h2; exact absurd c2 h2), h2⟩
        · rw [psum, show letF M0 61 S v k x i = 0 by simp only [letF]; rw [if_neg (fun z => z.1 c2)], Int32.add_zero]; exact i3.1 k x hk hx
        · rw [psum, show preF M0 61 S v k i = 0 by simp only [preF]; rw [if_neg (fun z => z.1 c2)], Int32.add_zero]; exact i3.2 k hk
      · refine blk 4 [(.aload_n 0, 0, 0, 0), (.aload_n 1, 0, 0, 0), (.getfield 32, 3, 0, 0), (.iload 4, 0, 0, 0), (.aaload, 0, 0, 0), (.aload_n 3, 0, 0, 0), (.iload 4, 0, 0, 0), (.iaload, 0, 0, 0)] [i, i] (by decide +kernel) rfl (pc' := 51) (ls' := [some (.ref 5), some (.ref 37), some (.int S), some (.ref v), some (.int (nI i))]) (st' := [.int (M v i), .ref (61 + i), .ref 5]) (M' := M) rfl ⟨trivial, trivial, rfl, trivial, ⟨rfl, (by show _ < 5; omega)⟩, trivial, trivial, ⟨rfl, (by rw [hv]; omega)⟩, trivial⟩ ?_
        have eB : M (61 + i) = M0 (61 + i) := i5 _ (by omega) (by omega)
        have eC : M (61 + i + 5) = M0 (61 + i + 5) := i5 _ (by omega) (by omega)
        refine g_callV (s_rrow5 M (t := 61 + i) (w := w) (M v i) (kd61 (by omega)) (by omega) hw (by rw [al66 (by omega)]; omega) (by rw [eB]; exact hW i (by omega) c2) (fun k h => by rw [eC]; exact hc i k (by omega) c2 h)) ok_X4_read_X4_readRow (by decide +kernel) rfl (c := 4) rfl (by decide) rfl (Nat.le_of_ble_eq_true rfl) (fun r N h => ?_) rfl
        obtain ⟨hr, q1, q2, q3, q4⟩ := h
        rw [hr]
        show G _ 54 [some (.ref 5), some (.ref 37), some (.int S), some (.ref v), some (.int (nI i))] [] N _
        refine blk 4 [(.iinc 4 1, 0, 0, (nI 1)), (.goto (-33), 24, 0, 0)] [] (by decide +kernel) rfl (pc' := 24) (ls' := [some (.ref 5), some (.ref 37), some (.int S), some (.ref v), some (.int (nI i + nI 1))]) (st' := []) (M' := N) rfl ⟨trivial, trivial, trivial⟩ ?_
        refine G.sub (ls' := [some (.ref 5), some (.ref 37), some (.int S), some (.ref v), some (.int (nI (i + 1)))]) ?_ ⟨rfl, rfl, rfl, rfl, congrArg (fun z => some (Value.int z)) (by simp only [nI_add, nI_s1]), trivial⟩
        refine ih (d - 1) (by omega) (i + 1) N (by omega) (by omega) ?_ (fun _ => q2) ⟨fun k x hk hx => ?_, fun k hk => ?_⟩ (fun z h1 h2 => ?_)
        · rw [q1, i1, psum, show whF M0 S v i = M v i by simp only [whF]; rw [if_neg c2, i5 v (by omega) (by omega)]]
        · rw [q3.1 k x hk hx, i3.1 k x hk hx, psum, eC]; congr 1; simp only [letF]; rw [← i5 v (by omega) (by omega)]; by_cases e : M0 (61 + i + 5) k = nI x
          · rw [if_pos e, if_pos ⟨c2, e⟩]
          · rw [if_neg e, if_neg (fun z => e z.2)]
        · rw [q3.2 k hk, i3.2 k hk, psum, eC]; congr 1; simp only [preF]; rw [← i5 v (by omega) (by omega)]; by_cases e : M0 (61 + i + 5) k = -1
          · rw [if_pos e, if_neg (fun z => z.2 e)]
          · rw [if_neg e, if_pos ⟨c2, e⟩]
        · rw [q4 z h1 h2]; exact i5 z h1 h2
theorem s_read5_37 (M : Mem) (S : Int32) {v w : Nat} (hv : al v = 5) (hv2 : 10 < v) (hw : w ≤ 48) (hW : ∀ a, a < 5 → ¬ hb S a = 0 → M (61 + a) 1 = nI w) (hc : ∀ a k, a < 5 → ¬ hb S a = 0 → k < w → okc (M (61 + a + 5) k)) (hS : ∃ a, a < 5 ∧ ¬ hb S a = 0) : Spec mX4_read [.ref 5, .ref 37, .int S, .ref v] M (readP M 5 61 S v w) := by
  refine Spec.of (by decide) (by simp [Value.category]) (Nat.le_of_ble_eq_true rfl) ?_
  refine blk 4 [(.aload_n 0, 0, 0, 0), (.getfield 11, 4, 0, 0), (.iconst 0, 0, 0, (nI 0))] [] (by decide +kernel) rfl (pc' := 5) (ls' := [some (.ref 5), some (.ref 37), some (.int S), some (.ref v), none]) (st' := [.int (nI 0), .ref 6]) (M' := M) rfl ⟨trivial, rfl, trivial, trivial⟩ ?_
  refine g_callS (s_fill _ (t := 6) (nI 0) (by decide) rfl) ok_fill (by decide +kernel) rfl (Nat.le_of_ble_eq_true rfl) (fun r A hA => ?_) rfl
  obtain ⟨hr, A1, A2⟩ := hA
  rw [hr]
  show G _ 8 [some (.ref 5), some (.ref 37), some (.int S), some (.ref v), none] [] A _
  refine blk 4 [(.aload_n 0, 0, 0, 0), (.getfield 15, 4, 1, 0), (.iconst 0, 0, 0, (nI 0))] [] (by decide +kernel) rfl (pc' := 13) (ls' := [some (.ref 5), some (.ref 37), some (.int S), some (.ref v), none]) (st' := [.int (nI 0), .ref 7]) (M' := A) rfl ⟨trivial, rfl, trivial, trivial⟩ ?_
  refine g_callS (s_fill _ (t := 7) (nI 0) (by decide) rfl) ok_fill (by decide +kernel) rfl (Nat.le_of_ble_eq_true rfl) (fun r B hB => ?_) rfl
  obtain ⟨hr, B1, B2⟩ := hB
  rw [hr]
  show G _ 16 [some (.ref 5), some (.ref 37), some (.int S), some (.ref v), none] [] B _
  refine blk 4 [(.aload_n 0, 0, 0, 0), (.iconst 0, 0, 0, (nI 0)), (.putfield 24, 4, 2, 0), (.iconst 0, 0, 0, (nI 0)), (.istore 4, 0, 0, 0)] [] (by decide +kernel) rfl (pc' := 24) (ls' := [some (.ref 5), some (.ref 37), some (.int S), some (.ref v), some (.int (nI 0))]) (st' := []) (M' := stm B 5 2 (nI 0)) rfl ⟨trivial, trivial, rfl, trivial, trivial, trivial⟩ ?_
  have e0 : ∀ z, (z < 5 ∨ 5 + 2 < z) → z ≠ 5 → stm B 5 2 (nI 0) z = M z := fun z h1 h2 => by rw [stm_ne h2, B2 z (by omega), A2 z (by omega)]
  refine l_read5_37 hv hv2 hw hW hc hS _ 0 _ rfl (by omega) (by rw [stm_self]; exact nI_0) (fun h => absurd h (fun z => by obtain ⟨a, h, _⟩ := z; omega)) ⟨fun k x hk hx => ?_, fun k hk => ?_⟩ e0
  · rw [stm_ne (by omega), B2 _ (by omega), A1 _ (by show _ < 192; omega)]; exact nI_0
  · rw [stm_ne (by omega), B1 _ (by show _ < 48; omega)]; exact nI_0
theorem l_rrow8 {M0 : Mem} {t w : Nat} {f A : Int32} {Post : Option Value → Mem → Prop} (hk : kd t = 2) (ht : 20 < t) (hw : w ≤ 48) (hl : w ≤ al (t + 5)) (hc0 : ∀ k, k < w → okc (M0 (t + 5) k)) (hp : ∀ M, M 8 2 = A → M 8 3 = nI w → rrJ M0 M 8 t f w → (∀ z, (z < 8 ∨ 10 < z) → z ≠ 8 → M z = M0 z) → Post none M) : ∀ d j M, d = w - j → j ≤ w → M 8 2 = A → M 8 3 = nI w → rrJ M0 M 8 t f j → rrK M0 M 8 j → (∀ z, (z < 8 ∨ 10 < z) → z ≠ 8 → M z = M0 z) → G mX4_readRow 20 [some (.ref 8), some (.ref t), some (.int f), some (.int (nI j))] [] M Post := by
  intro d
  induction d using Nat.strongRecOn with
  | ind d ih =>
    intro j M hd hj i1 i2 i3b i3 i4
    have hc : ∀ k, k < w → okc (M (t + 5) k) := fun k h => by rw [i4 (t + 5) (by omega) (by omega)]; exact hc0 k h
    refine blk 4 [(.iload_n 3, 0, 0, 0), (.aload_n 0, 0, 0, 0), (.getfield 47, 4, 3, 0)] [] (by decide +kernel) rfl (pc' := 25) (ls' := [some (.ref 8), some (.ref t), some (.int f), some (.int (nI j))]) (st' := [.int (M 8 3), .int (nI j)]) (M' := M) rfl ⟨trivial, trivial, rfl, trivial⟩ ?_
    refine g_icmp_ge (off := 48) (tgt := 73) (by decide +kernel) (by decide) (fun c1 => ?_) (fun c1 => ?_)
    · have nc1 : w ≤ j := (nI_leI (by omega) (by omega)).mp (by simpa only [i2, nI_add, pk_mul, nI_s1, n0_lit] using c1)
      have e : j = w := by omega
      subst e
      exact g_return (by decide +kernel) rfl (hp M i1 i2 i3b i4)
    · have nc1 : j < w := by
        have z : ¬ nI w ≤ nI j := by simpa only [i2, nI_add, pk_mul, nI_s1, n0_lit] using c1
        rw [nI_leI (by omega) (by omega)] at z
        omega
      refine blk 4 [(.aload_n 1, 0, 0, 0), (.getfield 48, 2, 0, 0), (.iload_n 3, 0, 0, 0), (.iaload, 0, 0, 0), (.iconst (-1), 0, 0, (-1))] [j] (by decide +kernel) rfl (pc' := 35) (ls' := [some (.ref 8), some (.ref t), some (.int f), some (.int (nI j))]) (st' := [.int (-1), .int (M (t + 5) j)]) (M' := M) rfl ⟨trivial, (by assumption), trivial, ⟨rfl, (by omega)⟩, trivial, trivial⟩ ?_
      refine g_icmp_eq (off := 32) (tgt := 67) (by decide +kernel) (by decide) (fun c2 => ?_) (fun c2 => ?_)
      · refine blk 4 [(.iinc 3 1, 0, 0, (nI 1)), (.goto (-50), 20, 0, 0)] [] (by decide +kernel) rfl (pc' := 20) (ls' := [some (.ref 8), some (.ref t), some (.int f), some (.int (nI j + nI 1))]) (st' := []) (M' := M) rfl ⟨trivial, trivial, trivial⟩ ?_
        have et : M (t + 5) = M0 (t + 5) := i4 _ (by omega) (by omega)
        refine G.sub (ls' := [some (.ref 8), some (.ref t), some (.int f), some (.int (nI (j + 1)))]) ?_ ⟨rfl, rfl, rfl, congrArg (fun z => some (Value.int z)) (by simp only [nI_add, nI_s1]), trivial⟩
        refine ih (d - 1) (by omega) (j + 1) _ (by omega) (by omega) i1 i2 ⟨fun a x ha hx => ?_, fun a ha => ?_⟩ ⟨fun a x ha hx => i3.1 a x (by omega) hx, fun a ha => i3.2 a (by omega)⟩ i4
        · by_cases e : a = j
          · subst e; rw [i3.1 a x (Nat.le_refl a) hx, ← et, if_neg (by rw [c2]; exact nI_nm1 (by omega)), Int32.add_zero]
          · exact i3b.1 a x (by omega) hx
        · by_cases e : a = j
          · subst e; rw [i3.2 a (Nat.le_refl a), ← et, if_pos c2, Int32.add_zero]
          · exact i3b.2 a (by omega)
      · have ex := okc_cd (hc j (by omega)) c2
        refine blk 4 [(.aload_n 0, 0, 0, 0), (.getfield 11, 4, 0, 0), (.iload_n 3, 0, 0, 0), (.iconst 4, 0, 0, (nI 4)), (.imul, 0, 0, 0), (.aload_n 1, 0, 0, 0), (.getfield 48, 2, 0, 0), (.iload_n 3, 0, 0, 0), (.iaload, 0, 0, 0), (.iadd, 0, 0, 0), (.dup2, 0, 0, 0), (.iaload, 0, 0, 0), (.iload_n 2, 0, 0, 0), (.iadd, 0, 0, 0), (.iastore, 0, 0, 0), (.aload_n 0, 0, 0, 0), (.getfield 15, 4, 1, 0), (.iload_n 3, 0, 0, 0), (.dup2, 0, 0, 0), (.iaload, 0, 0, 0), (.iload_n 2, 0, 0, 0), (.iadd, 0, 0, 0), (.iastore, 0, 0, 0), (.iinc 3 1, 0, 0, (nI 1)), (.goto (-50), 20, 0, 0)] [j, j * 4 + cd (M (t + 5) j), j * 4 + cd (M (t + 5) j), j, j] (by decide +kernel) rfl (pc' := 20) (ls' := [some (.ref 8), some (.ref t), some (.int f), some (.int (nI j + nI 1))]) (st' := []) (M' := stm (stm M 9 (j * 4 + cd (M (t + 5) j)) ((M 9 (j * 4 + cd (M (t + 5) j))) + f)) 10 j ((M 10 j) + f)) rfl ⟨trivial, rfl, trivial, trivial, trivial, trivial, (by assumption), trivial, ⟨rfl, (by omega)⟩, trivial, ⟨rfl, rfl⟩, ⟨(ixr ex.1), (by show _ < 192; omega)⟩, trivial, trivial, ⟨(ixr ex.1), (by show _ < 192; omega), by decide⟩, trivial, rfl, trivial, ⟨rfl, rfl⟩, ⟨rfl, (by show _ < 48; omega)⟩, trivial, trivial, ⟨rfl, (by show _ < 48; omega), by decide⟩, trivial, trivial, trivial⟩ ?_
        have et : M (t + 5) = M0 (t + 5) := i4 _ (by omega) (by omega)
        refine G.sub (ls' := [some (.ref 8), some (.ref t), some (.int f), some (.int (nI (j + 1)))]) ?_ ⟨rfl, rfl, rfl, congrArg (fun z => some (Value.int z)) (by simp only [nI_add, nI_s1]), trivial⟩
        refine ih (d - 1) (by omega) (j + 1) _ (by omega) (by omega) i1 i2 ⟨fun a x ha hx => ?_, fun a ha => ?_⟩ ⟨fun a x ha hx => ?_, fun a ha => ?_⟩ (fun z h1 h2 => ?_)
        · rw [stm_ne (by omega)]
          by_cases e : a * 4 + x = j * 4 + cd (M (t + 5) j)
          · rw [e, stm_self, ← e]
            have e1 : a = j := by omega
            have e2 : x = cd (M (t + 5) j) := by omega
            subst e1
            rw [i3.1 a x (Nat.le_refl a) hx, ← et, if_pos (by rw [e2]; exact ex.1)]
          · rw [stm_off e]
            by_cases ea : a = j
            · subst ea
              rw [i3.1 a x (Nat.le_refl a) hx, ← et, if_neg (fun z => e (by rw [ex.1] at z; have := (nI_eq (by omega) (by omega)).mp z; omega)), Int32.add_zero]
            · exact i3b.1 a x (by omega) hx
        · by_cases e : a = j
          · subst e; rw [stm_self, show M 10 a = M0 (8 + 2) a from i3.2 a (Nat.le_refl a), ← et, if_neg c2]
          · rw [stm_off e, stm_ne (by omega)]; exact i3b.2 a (by omega)
        · rw [stm_ne (by omega), stm_off (by omega)]; exact i3.1 a x (by omega) hx
        · rw [stm_off (by omega), stm_ne (by omega)]; exact i3.2 a (by omega)
        · rw [stm_ne (by omega), stm_ne (by omega)]; exact i4 z h1 h2
theorem s_rrow8 (M : Mem) {t w : Nat} (f : Int32) (hk : kd t = 2) (ht : 20 < t) (hw : w ≤ 48) (hl : w ≤ al (t + 5)) (hwd : M t 1 = nI w) (hc : ∀ k, k < w → okc (M (t + 5) k)) : Spec mX4_readRow [.ref 8, .ref t, .int f] M (rrowP M 8 t w f) := by
  refine Spec.of (by decide) (by simp [Value.category]) (Nat.le_of_ble_eq_true rfl) ?_
  refine blk 4 [(.aload_n 0, 0, 0, 0), (.dup, 0, 0, 0), (.getfield 24, 4, 2, 0), (.iload_n 2, 0, 0, 0), (.iadd, 0, 0, 0), (.putfield 24, 4, 2, 0), (.aload_n 0, 0, 0, 0), (.aload_n 1, 0, 0, 0), (.getfield 42, 2, 1, 0), (.putfield 47, 4, 3, 0), (.iconst 0, 0, 0, (nI 0)), (.istore_n 3, 0, 0, 0)] [] (by decide +kernel) rfl (pc' := 20) (ls' := [some (.ref 8), some (.ref t), some (.int f), some (.int (nI 0))]) (st' := []) (M' := stm (stm M 8 2 ((M 8 2) + f)) 8 3 ((stm M 8 2 ((M 8 2) + f)) t 1)) rfl ⟨trivial, rfl, rfl, trivial, trivial, rfl, trivial, trivial, (by assumption), rfl, trivial, trivial, trivial⟩ ?_
  rw [show stm M 8 2 (M 8 2 + f) t 1 = M t 1 by rw [stm_ne (by omega)]]
  have e2 : (stm (stm M 8 2 (M 8 2 + f)) 8 3 (M t 1)) 8 2 = M 8 2 + f := by rw [stm_off (by decide), stm_self]
  have e0 : ∀ z, z ≠ 8 → (stm (stm M 8 2 (M 8 2 + f)) 8 3 (M t 1)) z = M z := fun z hz => by rw [stm_ne hz, stm_ne hz]
  refine l_rrow8 (M0 := M) hk ht hw hl hc (fun N h1 h2 h3 h4 => ⟨rfl, h1, h2, h3, h4⟩) _ 0 _ rfl (by omega) e2 (by rw [stm_self]; exact hwd) ⟨fun k x h => absurd h (by omega), fun k h => absurd h (by omega)⟩ ⟨fun k x _ _ => by rw [e0 _ (by omega)], fun k _ => by rw [e0 _ (by omega)]⟩ (fun z _ h => e0 z h)
theorem l_read8_35 {M0 : Mem} {S : Int32} {v w : Nat} (hv : al v = 5) (hv2 : 10 < v) (hw : w ≤ 48) (hW : ∀ a, a < 5 → ¬ hb S a = 0 → M0 (51 + a) 1 = nI w) (hc : ∀ a k, a < 5 → ¬ hb S a = 0 → k < w → okc (M0 (51 + a + 5) k)) (hS : ∃ a, a < 5 ∧ ¬ hb S a = 0) : ∀ d i M, d = 5 - i → i ≤ 5 → M 8 2 = psum (whF M0 S v) i → ((∃ a, a < i ∧ ¬ hb S a = 0) → M 8 3 = nI w) → ((∀ k x, k < w → x < 4 → M (8 + 1) (k * 4 + x) = psum (letF M0 51 S v k x) i) ∧ (∀ k, k < w → M (8 + 2) k = psum (preF M0 51 S v k) i)) → (∀ z, (z < 8 ∨ 8 + 2 < z) → z ≠ 8 → M z = M0 z) → G mX4_read 24 [some (.ref 8), some (.ref 35), some (.int S), some (.ref v), some (.int (nI i))] [] M (readP M0 8 51 S v w) := by
  intro d
  induction d using Nat.strongRecOn with
  | ind d ih =>
    intro i M hd hj i1 i2 i3 i5
    refine blk 4 [(.iload 4, 0, 0, 0), (.iconst 5, 0, 0, (nI 5))] [] (by decide +kernel) rfl (pc' := 27) (ls' := [some (.ref 8), some (.ref 35), some (.int S), some (.ref v), some (.int (nI i))]) (st' := [.int (nI 5), .int (nI i)]) (M' := M) rfl ⟨trivial, trivial, trivial⟩ ?_
    refine g_icmp_ge (off := 33) (tgt := 60) (by decide +kernel) (by decide) (fun c1 => ?_) (fun c1 => ?_)
    · have nc1 : 5 ≤ i := (nI_leI (by omega) (by omega)).mp (by simpa only [nI_add, pk_mul, nI_s1, n0_lit] using c1)
      have e : i = 5 := by omega
      subst e
      exact g_return (by decide +kernel) rfl ⟨rfl, i1, i2 hS, i3.1, i3.2, i5⟩
    · have nc1 : i < 5 := by
        have z : ¬ nI 5 ≤ nI i := by simpa only [nI_add, pk_mul, nI_s1, n0_lit] using c1
        rw [nI_leI (by omega) (by omega)] at z
        omega
      refine blk 4 [(.iload_n 2, 0, 0, 0), (.iload 4, 0, 0, 0)] [] (by decide +kernel) rfl (pc' := 33) (ls' := [some (.ref 8), some (.ref 35), some (.int S), some (.ref v), some (.int (nI i))]) (st' := [.int (nI i), .int S]) (M' := M) rfl ⟨trivial, trivial, trivial⟩ ?_
      refine g_callN (index := 28) (s_holds _ S i) rfl (by decide) ⟨ok_X6_holds.1, ok_X6_holds.2.1, ok_X6_holds.2.2.1, ok_X6_holds.2.2.2, by decide +kernel, by decide +kernel⟩ (by decide +kernel) rfl (Nat.le_of_ble_eq_true rfl) (fun r M' h => ?_) rfl
      obtain ⟨hr, hM⟩ := h
      rw [hr, hM]
      show G _ 36 [some (.ref 8), some (.ref 35), some (.int S), some (.ref v), some (.int (nI i))] [.int (hb S i)] M _
      refine g_if_eq (off := 18) (tgt := 54) (by decide +kernel) (by decide) (fun c2 => ?_) (fun c2 => ?_)
      · refine blk 4 [(.iinc 4 1, 0, 0, (nI 1)), (.goto (-33), 24, 0, 0)] [] (by decide +kernel) rfl (pc' := 24) (ls' := [some (.ref 8), some (.ref 35), some (.int S), some (.ref v), some (.int (nI i + nI 1))]) (st' := []) (M' := M) rfl ⟨trivial, trivial, trivial⟩ ?_
        refine G.sub (ls' := [some (.ref 8), some (.ref 35), some (.int S), some (.ref v), some (.int (nI (i + 1)))]) ?_ ⟨rfl, rfl, rfl, rfl, congrArg (fun z => some (Value.int z)) (by simp only [nI_add, nI_s1]), trivial⟩
        refine ih (d - 1) (by omega) (i + 1) M (by omega) (by omega) ?_ (fun h => i2 ?_) ⟨fun k x hk hx => ?_, fun k hk => ?_⟩ i5
        · rw [psum, show whF M0 S v i = 0 by simp only [whF]; rw [if_pos c2], Int32.add_zero]; exact i1
        · obtain ⟨a, h1, h2⟩ := h
          exact ⟨a, by rcases Nat.lt_or_ge a i with z | z; exact z; exact absurd (show a = i by omega ▸ c2) (by rw [show a = i by omega] at h2; exact absurd c2 h2), h2⟩
        · rw [psum, show letF M0 51 S v k x i = 0 by simp only [letF]; rw [if_neg (fun z => z.1 c2)], Int32.add_zero]; exact i3.1 k x hk hx
        · rw [psum, show preF M0 51 S v k i = 0 by simp only [preF]; rw [if_neg (fun z => z.1 c2)], Int32.add_zero]; exact i3.2 k hk
      · refine blk 4 [(.aload_n 0, 0, 0, 0), (.aload_n 1, 0, 0, 0), (.getfield 32, 3, 0, 0), (.iload 4, 0, 0, 0), (.aaload, 0, 0, 0), (.aload_n 3, 0, 0, 0), (.iload 4, 0, 0, 0), (.iaload, 0, 0, 0)] [i, i] (by decide +kernel) rfl (pc' := 51) (ls' := [some (.ref 8), some (.ref 35), some (.int S), some (.ref v), some (.int (nI i))]) (st' := [.int (M v i), .ref (51 + i), .ref 8]) (M' := M) rfl ⟨trivial, trivial, rfl, trivial, ⟨rfl, (by show _ < 5; omega)⟩, trivial, trivial, ⟨rfl, (by rw [hv]; omega)⟩, trivial⟩ ?_
        have eB : M (51 + i) = M0 (51 + i) := i5 _ (by omega) (by omega)
        have eC : M (51 + i + 5) = M0 (51 + i + 5) := i5 _ (by omega) (by omega)
        refine g_callV (s_rrow8 M (t := 51 + i) (w := w) (M v i) (kd51 (by omega)) (by omega) hw (by rw [al56 (by omega)]; omega) (by rw [eB]; exact hW i (by omega) c2) (fun k h => by rw [eC]; exact hc i k (by omega) c2 h)) ok_X4_read_X4_readRow (by decide +kernel) rfl (c := 4) rfl (by decide) rfl (Nat.le_of_ble_eq_true rfl) (fun r N h => ?_) rfl
        obtain ⟨hr, q1, q2, q3, q4⟩ := h
        rw [hr]
        show G _ 54 [some (.ref 8), some (.ref 35), some (.int S), some (.ref v), some (.int (nI i))] [] N _
        refine blk 4 [(.iinc 4 1, 0, 0, (nI 1)), (.goto (-33), 24, 0, 0)] [] (by decide +kernel) rfl (pc' := 24) (ls' := [some (.ref 8), some (.ref 35), some (.int S), some (.ref v), some (.int (nI i + nI 1))]) (st' := []) (M' := N) rfl ⟨trivial, trivial, trivial⟩ ?_
        refine G.sub (ls' := [some (.ref 8), some (.ref 35), some (.int S), some (.ref v), some (.int (nI (i + 1)))]) ?_ ⟨rfl, rfl, rfl, rfl, congrArg (fun z => some (Value.int z)) (by simp only [nI_add, nI_s1]), trivial⟩
        refine ih (d - 1) (by omega) (i + 1) N (by omega) (by omega) ?_ (fun _ => q2) ⟨fun k x hk hx => ?_, fun k hk => ?_⟩ (fun z h1 h2 => ?_)
        · rw [q1, i1, psum, show whF M0 S v i = M v i by simp only [whF]; rw [if_neg c2, i5 v (by omega) (by omega)]]
        · rw [q3.1 k x hk hx, i3.1 k x hk hx, psum, eC]; congr 1; simp only [letF]; rw [← i5 v (by omega) (by omega)]; by_cases e : M0 (51 + i + 5) k = nI x
          · rw [if_pos e, if_pos ⟨c2, e⟩]
          · rw [if_neg e, if_neg (fun z => e z.2)]
        · rw [q3.2 k hk, i3.2 k hk, psum, eC]; congr 1; simp only [preF]; rw [← i5 v (by omega) (by omega)]; by_cases e : M0 (51 + i + 5) k = -1
          · rw [if_pos e, if_neg (fun z => z.2 e)]
          · rw [if_neg e, if_pos ⟨c2, e⟩]
        · rw [q4 z h1 h2]; exact i5 z h1 h2
theorem s_read8_35 (M : Mem) (S : Int32) {v w : Nat} (hv : al v = 5) (hv2 : 10 < v) (hw : w ≤ 48) (hW : ∀ a, a < 5 → ¬ hb S a = 0 → M (51 + a) 1 = nI w) (hc : ∀ a k, a < 5 → ¬ hb S a = 0 → k < w → okc (M (51 + a + 5) k)) (hS : ∃ a, a < 5 ∧ ¬ hb S a = 0) : Spec mX4_read [.ref 8, .ref 35, .int S, .ref v] M (readP M 8 51 S v w) := by
  refine Spec.of (by decide) (by simp [Value.category]) (Nat.le_of_ble_eq_true rfl) ?_
  refine blk 4 [(.aload_n 0, 0, 0, 0), (.getfield 11, 4, 0, 0), (.iconst 0, 0, 0, (nI 0))] [] (by decide +kernel) rfl (pc' := 5) (ls' := [some (.ref 8), some (.ref 35), some (.int S), some (.ref v), none]) (st' := [.int (nI 0), .ref 9]) (M' := M) rfl ⟨trivial, rfl, trivial, trivial⟩ ?_
  refine g_callS (s_fill _ (t := 9) (nI 0) (by decide) rfl) ok_fill (by decide +kernel) rfl (Nat.le_of_ble_eq_true rfl) (fun r A hA => ?_) rfl
  obtain ⟨hr, A1, A2⟩ := hA
  rw [hr]
  show G _ 8 [some (.ref 8), some (.ref 35), some (.int S), some (.ref v), none] [] A _
  refine blk 4 [(.aload_n 0, 0, 0, 0), (.getfield 15, 4, 1, 0), (.iconst 0, 0, 0, (nI 0))] [] (by decide +kernel) rfl (pc' := 13) (ls' := [some (.ref 8), some (.ref 35), some (.int S), some (.ref v), none]) (st' := [.int (nI 0), .ref 10]) (M' := A) rfl ⟨trivial, rfl, trivial, trivial⟩ ?_
  refine g_callS (s_fill _ (t := 10) (nI 0) (by decide) rfl) ok_fill (by decide +kernel) rfl (Nat.le_of_ble_eq_true rfl) (fun r B hB => ?_) rfl
  obtain ⟨hr, B1, B2⟩ := hB
  rw [hr]
  show G _ 16 [some (.ref 8), some (.ref 35), some (.int S), some (.ref v), none] [] B _
  refine blk 4 [(.aload_n 0, 0, 0, 0), (.iconst 0, 0, 0, (nI 0)), (.putfield 24, 4, 2, 0), (.iconst 0, 0, 0, (nI 0)), (.istore 4, 0, 0, 0)] [] (by decide +kernel) rfl (pc' := 24) (ls' := [some (.ref 8), some (.ref 35), some (.int S), some (.ref v), some (.int (nI 0))]) (st' := []) (M' := stm B 8 2 (nI 0)) rfl ⟨trivial, trivial, rfl, trivial, trivial, trivial⟩ ?_
  have e0 : ∀ z, (z < 8 ∨ 8 + 2 < z) → z ≠ 8 → stm B 8 2 (nI 0) z = M z := fun z h1 h2 => by rw [stm_ne h2, B2 z (by omega), A2 z (by omega)]
  refine l_read8_35 hv hv2 hw hW hc hS _ 0 _ rfl (by omega) (by rw [stm_self]; exact nI_0) (fun h => absurd h (fun z => by obtain ⟨a, h, _⟩ := z; omega)) ⟨fun k x hk hx => ?_, fun k hk => ?_⟩ e0
  · rw [stm_ne (by omega), B2 _ (by omega), A1 _ (by show _ < 192; omega)]; exact nI_0
  · rw [stm_ne (by omega), B1 _ (by show _ < 48; omega)]; exact nI_0
theorem l_read8_37 {M0 : Mem} {S : Int32} {v w : Nat} (hv : al v = 5) (hv2 : 10 < v) (hw : w ≤ 48) (hW : ∀ a, a < 5 → ¬ hb S a = 0 → M0 (61 + a) 1 = nI w) (hc : ∀ a k, a < 5 → ¬ hb S a = 0 → k < w → okc (M0 (61 + a + 5) k)) (hS : ∃ a, a < 5 ∧ ¬ hb S a = 0) : ∀ d i M, d = 5 - i → i ≤ 5 → M 8 2 = psum (whF M0 S v) i → ((∃ a, a < i ∧ ¬ hb S a = 0) → M 8 3 = nI w) → ((∀ k x, k < w → x < 4 → M (8 + 1) (k * 4 + x) = psum (letF M0 61 S v k x) i) ∧ (∀ k, k < w → M (8 + 2) k = psum (preF M0 61 S v k) i)) → (∀ z, (z < 8 ∨ 8 + 2 < z) → z ≠ 8 → M z = M0 z) → G mX4_read 24 [some (.ref 8), some (.ref 37), some (.int S), some (.ref v), some (.int (nI i))] [] M (readP M0 8 61 S v w) := by
  intro d
  induction d using Nat.strongRecOn with
  | ind d ih =>
    intro i M hd hj i1 i2 i3 i5
    refine blk 4 [(.iload 4, 0, 0, 0), (.iconst 5, 0, 0, (nI 5))] [] (by decide +kernel) rfl (pc' := 27) (ls' := [some (.ref 8), some (.ref 37), some (.int S), some (.ref v), some (.int (nI i))]) (st' := [.int (nI 5), .int (nI i)]) (M' := M) rfl ⟨trivial, trivial, trivial⟩ ?_
    refine g_icmp_ge (off := 33) (tgt := 60) (by decide +kernel) (by decide) (fun c1 => ?_) (fun c1 => ?_)
    · have nc1 : 5 ≤ i := (nI_leI (by omega) (by omega)).mp (by simpa only [nI_add, pk_mul, nI_s1, n0_lit] using c1)
      have e : i = 5 := by omega
      subst e
      exact g_return (by decide +kernel) rfl ⟨rfl, i1, i2 hS, i3.1, i3.2, i5⟩
    · have nc1 : i < 5 := by
        have z : ¬ nI 5 ≤ nI i := by simpa only [nI_add, pk_mul, nI_s1, n0_lit] using c1
        rw [nI_leI (by omega) (by omega)] at z
        omega
      refine blk 4 [(.iload_n 2, 0, 0, 0), (.iload 4, 0, 0, 0)] [] (by decide +kernel) rfl (pc' := 33) (ls' := [some (.ref 8), some (.ref 37), some (.int S), some (.ref v), some (.int (nI i))]) (st' := [.int (nI i), .int S]) (M' := M) rfl ⟨trivial, trivial, trivial⟩ ?_
      refine g_callN (index := 28) (s_holds _ S i) rfl (by decide) ⟨ok_X6_holds.1, ok_X6_holds.2.1, ok_X6_holds.2.2.1, ok_X6_holds.2.2.2, by decide +kernel, by decide +kernel⟩ (by decide +kernel) rfl (Nat.le_of_ble_eq_true rfl) (fun r M' h => ?_) rfl
      obtain ⟨hr, hM⟩ := h
      rw [hr, hM]
      show G _ 36 [some (.ref 8), some (.ref 37), some (.int S), some (.ref v), some (.int (nI i))] [.int (hb S i)] M _
      refine g_if_eq (off := 18) (tgt := 54) (by decide +kernel) (by decide) (fun c2 => ?_) (fun c2 => ?_)
      · refine blk 4 [(.iinc 4 1, 0, 0, (nI 1)), (.goto (-33), 24, 0, 0)] [] (by decide +kernel) rfl (pc' := 24) (ls' := [some (.ref 8), some (.ref 37), some (.int S), some (.ref v), some (.int (nI i + nI 1))]) (st' := []) (M' := M) rfl ⟨trivial, trivial, trivial⟩ ?_
        refine G.sub (ls' := [some (.ref 8), some (.ref 37), some (.int S), some (.ref v), some (.int (nI (i + 1)))]) ?_ ⟨rfl, rfl, rfl, rfl, congrArg (fun z => some (Value.int z)) (by simp only [nI_add, nI_s1]), trivial⟩
        refine ih (d - 1) (by omega) (i + 1) M (by omega) (by omega) ?_ (fun h => i2 ?_) ⟨fun k x hk hx => ?_, fun k hk => ?_⟩ i5
        · rw [psum, show whF M0 S v i = 0 by simp only [whF]; rw [if_pos c2], Int32.add_zero]; exact i1
        · obtain ⟨a, h1, h2⟩ := h
          exact ⟨a, by rcases Nat.lt_or_ge a i with z | z; exact z; exact absurd (show a = i by omega ▸ c2) (by rw [show a = i by omega] at h2; exact absurd c2 h2), h2⟩
        · rw [psum, show letF M0 61 S v k x i = 0 by simp only [letF]; rw [if_neg (fun z => z.1 c2)], Int32.add_zero]; exact i3.1 k x hk hx
        · rw [psum, show preF M0 61 S v k i = 0 by simp only [preF]; rw [if_neg (fun z => z.1 c2)], Int32.add_zero]; exact i3.2 k hk
      · refine blk 4 [(.aload_n 0, 0, 0, 0), (.aload_n 1, 0, 0, 0), (.getfield 32, 3, 0, 0), (.iload 4, 0, 0, 0), (.aaload, 0, 0, 0), (.aload_n 3, 0, 0, 0), (.iload 4, 0, 0, 0), (.iaload, 0, 0, 0)] [i, i] (by decide +kernel) rfl (pc' := 51) (ls' := [some (.ref 8), some (.ref 37), some (.int S), some (.ref v), some (.int (nI i))]) (st' := [.int (M v i), .ref (61 + i), .ref 8]) (M' := M) rfl ⟨trivial, trivial, rfl, trivial, ⟨rfl, (by show _ < 5; omega)⟩, trivial, trivial, ⟨rfl, (by rw [hv]; omega)⟩, trivial⟩ ?_
        have eB : M (61 + i) = M0 (61 + i) := i5 _ (by omega) (by omega)
        have eC : M (61 + i + 5) = M0 (61 + i + 5) := i5 _ (by omega) (by omega)
        refine g_callV (s_rrow8 M (t := 61 + i) (w := w) (M v i) (kd61 (by omega)) (by omega) hw (by rw [al66 (by omega)]; omega) (by rw [eB]; exact hW i (by omega) c2) (fun k h => by rw [eC]; exact hc i k (by omega) c2 h)) ok_X4_read_X4_readRow (by decide +kernel) rfl (c := 4) rfl (by decide) rfl (Nat.le_of_ble_eq_true rfl) (fun r N h => ?_) rfl
        obtain ⟨hr, q1, q2, q3, q4⟩ := h
        rw [hr]
        show G _ 54 [some (.ref 8), some (.ref 37), some (.int S), some (.ref v), some (.int (nI i))] [] N _
        refine blk 4 [(.iinc 4 1, 0, 0, (nI 1)), (.goto (-33), 24, 0, 0)] [] (by decide +kernel) rfl (pc' := 24) (ls' := [some (.ref 8), some (.ref 37), some (.int S), some (.ref v), some (.int (nI i + nI 1))]) (st' := []) (M' := N) rfl ⟨trivial, trivial, trivial⟩ ?_
        refine G.sub (ls' := [some (.ref 8), some (.ref 37), some (.int S), some (.ref v), some (.int (nI (i + 1)))]) ?_ ⟨rfl, rfl, rfl, rfl, congrArg (fun z => some (Value.int z)) (by simp only [nI_add, nI_s1]), trivial⟩
        refine ih (d - 1) (by omega) (i + 1) N (by omega) (by omega) ?_ (fun _ => q2) ⟨fun k x hk hx => ?_, fun k hk => ?_⟩ (fun z h1 h2 => ?_)
        · rw [q1, i1, psum, show whF M0 S v i = M v i by simp only [whF]; rw [if_neg c2, i5 v (by omega) (by omega)]]
        · rw [q3.1 k x hk hx, i3.1 k x hk hx, psum, eC]; congr 1; simp only [letF]; rw [← i5 v (by omega) (by omega)]; by_cases e : M0 (61 + i + 5) k = nI x
          · rw [if_pos e, if_pos ⟨c2, e⟩]
          · rw [if_neg e, if_neg (fun z => e z.2)]
        · rw [q3.2 k hk, i3.2 k hk, psum, eC]; congr 1; simp only [preF]; rw [← i5 v (by omega) (by omega)]; by_cases e : M0 (61 + i + 5) k = -1
          · rw [if_pos e, if_neg (fun z => z.2 e)]
          · rw [if_neg e, if_pos ⟨c2, e⟩]
        · rw [q4 z h1 h2]; exact i5 z h1 h2
theorem s_read8_37 (M : Mem) (S : Int32) {v w : Nat} (hv : al v = 5) (hv2 : 10 < v) (hw : w ≤ 48) (hW : ∀ a, a < 5 → ¬ hb S a = 0 → M (61 + a) 1 = nI w) (hc : ∀ a k, a < 5 → ¬ hb S a = 0 → k < w → okc (M (61 + a + 5) k)) (hS : ∃ a, a < 5 ∧ ¬ hb S a = 0) : Spec mX4_read [.ref 8, .ref 37, .int S, .ref v] M (readP M 8 61 S v w) := by
  refine Spec.of (by decide) (by simp [Value.category]) (Nat.le_of_ble_eq_true rfl) ?_
  refine blk 4 [(.aload_n 0, 0, 0, 0), (.getfield 11, 4, 0, 0), (.iconst 0, 0, 0, (nI 0))] [] (by decide +kernel) rfl (pc' := 5) (ls' := [some (.ref 8), some (.ref 37), some (.int S), some (.ref v), none]) (st' := [.int (nI 0), .ref 9]) (M' := M) rfl ⟨trivial, rfl, trivial, trivial⟩ ?_
  refine g_callS (s_fill _ (t := 9) (nI 0) (by decide) rfl) ok_fill (by decide +kernel) rfl (Nat.le_of_ble_eq_true rfl) (fun r A hA => ?_) rfl
  obtain ⟨hr, A1, A2⟩ := hA
  rw [hr]
  show G _ 8 [some (.ref 8), some (.ref 37), some (.int S), some (.ref v), none] [] A _
  refine blk 4 [(.aload_n 0, 0, 0, 0), (.getfield 15, 4, 1, 0), (.iconst 0, 0, 0, (nI 0))] [] (by decide +kernel) rfl (pc' := 13) (ls' := [some (.ref 8), some (.ref 37), some (.int S), some (.ref v), none]) (st' := [.int (nI 0), .ref 10]) (M' := A) rfl ⟨trivial, rfl, trivial, trivial⟩ ?_
  refine g_callS (s_fill _ (t := 10) (nI 0) (by decide) rfl) ok_fill (by decide +kernel) rfl (Nat.le_of_ble_eq_true rfl) (fun r B hB => ?_) rfl
  obtain ⟨hr, B1, B2⟩ := hB
  rw [hr]
  show G _ 16 [some (.ref 8), some (.ref 37), some (.int S), some (.ref v), none] [] B _
  refine blk 4 [(.aload_n 0, 0, 0, 0), (.iconst 0, 0, 0, (nI 0)), (.putfield 24, 4, 2, 0), (.iconst 0, 0, 0, (nI 0)), (.istore 4, 0, 0, 0)] [] (by decide +kernel) rfl (pc' := 24) (ls' := [some (.ref 8), some (.ref 37), some (.int S), some (.ref v), some (.int (nI 0))]) (st' := []) (M' := stm B 8 2 (nI 0)) rfl ⟨trivial, trivial, rfl, trivial, trivial, trivial⟩ ?_
  have e0 : ∀ z, (z < 8 ∨ 8 + 2 < z) → z ≠ 8 → stm B 8 2 (nI 0) z = M z := fun z h1 h2 => by rw [stm_ne h2, B2 z (by omega), A2 z (by omega)]
  refine l_read8_37 hv hv2 hw hW hc hS _ 0 _ rfl (by omega) (by rw [stm_self]; exact nI_0) (fun h => absurd h (fun z => by obtain ⟨a, h, _⟩ := z; omega)) ⟨fun k x hk hx => ?_, fun k hk => ?_⟩ e0
  · rw [stm_ne (by omega), B2 _ (by omega), A1 _ (by show _ < 192; omega)]; exact nI_0
  · rw [stm_ne (by omega), B1 _ (by show _ < 48; omega)]; exact nI_0
