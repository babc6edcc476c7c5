/-! MEMORY BY TAGS: every object and array of the class and of the reference is made in a constructor, so each has a number (tag) once and for all;
what they hold is one function of tag and place. kd: what a tag is (0 to 7: an object of that class; 8 ints; 9 rows; 10 int arrays); al: how many ints; rb, rl: the tags in an array of references. -/
abbrev Mem : Type := Nat → Nat → Int32
def kdL : List Nat := [6, 9, 0, 8, 1, 4, 8, 8, 4, 8, 8, 10, 8, 8, 8, 8, 5, 8, 8, 8, 8, 8, 8, 8, 8, 10, 8, 8, 8, 8, 8, 8, 8, 8, 8, 3, 9, 3, 9, 8, 8, 2, 2, 2, 2, 2, 8, 8, 8, 8, 8, 2, 2, 2, 2, 2, 8, 8, 8, 8, 8, 2, 2, 2, 2, 2, 8, 8, 8, 8, 8, 2, 7, 8, 8, 8, 8, 8, 8, 8, 8, 8, 8, 8, 8, 8, 8, 8, 8, 8, 8, 8, 8, 8, 8, 8]
def alL : List Nat := [0, 0, 0, 16, 0, 0, 192, 48, 0, 192, 48, 0, 925, 925, 925, 60, 0, 9, 9, 9, 9, 9, 9, 9, 5, 0, 9, 9, 9, 9, 9, 9, 9, 9, 9, 0, 0, 0, 0, 5, 11163, 0, 0, 0, 0, 0, 12, 12, 12, 12, 12, 0, 0, 0, 0, 0, 60, 60, 60, 60, 60, 0, 0, 0, 0, 0, 60, 60, 60, 60, 60, 0, 0, 5, 60, 12, 12, 16, 9, 9, 9, 9, 9, 9, 2700, 9, 81, 25, 5, 300, 300, 300, 300, 3600, 60, 60, 0, 5]
def rbL : List Nat := [0, 41, 0, 0, 0, 0, 0, 0, 0, 0, 0, 12, 0, 0, 0, 0, 0, 0, 0, 0, 0, 0, 0, 0, 0, 26, 0, 0, 0, 0, 0, 0, 0, 0, 0, 0, 51, 0, 61, 0, 0, 0, 0, 0, 0, 0, 0, 0, 0, 0, 0, 0, 0, 0, 0, 0, 0, 0, 0, 0, 0, 0, 0, 0, 0, 0, 0, 0, 0, 0, 0, 0, 0, 0, 0, 0, 0, 0, 0, 0, 0, 0, 0, 0, 0, 0, 0, 0, 0, 0, 0, 0, 0, 0, 0, 0]
def rlL : List Nat := [0, 5, 0, 0, 0, 0, 0, 0, 0, 0, 0, 3, 0, 0, 0, 0, 0, 0, 0, 0, 0, 0, 0, 0, 0, 9, 0, 0, 0, 0, 0, 0, 0, 0, 0, 0, 5, 0, 5, 0, 0, 0, 0, 0, 0, 0, 0, 0, 0, 0, 0, 0, 0, 0, 0, 0, 0, 0, 0, 0, 0, 0, 0, 0, 0, 0, 0, 0, 0, 0, 0, 0, 0, 0, 0, 0, 0, 0, 0, 0, 0, 0, 0, 0, 0, 0, 0, 0, 0, 0, 0, 0, 0, 0, 0, 0]
def kd (t : Nat) : Nat := kdL.getD t 99
def al (t : Nat) : Nat := alL.getD t 0
def rb (t : Nat) : Nat := rbL.getD t 0
def rl (t : Nat) : Nat := rlL.getD t 0
/-- the fields of a class: 0 int, 1 boolean, 2 long, 3 the tag so much on, 4 the tag that stands in the memory, 5 that tag -/
def fkL : Nat → List (Nat × Nat) := fun c => match c with
  | 0 => [(3, 1), (0, 0), (0, 0)]
  | 1 => [(5, 2), (5, 5), (5, 8), (5, 11), (5, 15), (0, 0), (0, 0), (0, 0), (0, 0), (0, 0)]
  | 2 => [(3, 5), (0, 0)]
  | 3 => [(3, 1)]
  | 4 => [(3, 1), (3, 2), (0, 0), (0, 0)]
  | 5 => [(5, 17), (5, 18), (5, 19), (5, 20), (5, 21), (5, 22), (5, 23), (5, 24), (5, 25), (0, 0), (0, 0), (1, 0)]
  | 6 => [(5, 1), (5, 71), (5, 2), (5, 4), (5, 16), (4, 0), (4, 0), (0, 0), (1, 0), (1, 0), (1, 0), (1, 0)]
  | _ => [(0, 0), (5, 73), (5, 74), (0, 0), (5, 75), (5, 77), (0, 0), (0, 0), (1, 0), (1, 0), (1, 0), (1, 0), (5, 78), (5, 79), (5, 80), (5, 81), (5, 82), (5, 83), (5, 84), (5, 85), (5, 86), (5, 87), (5, 88), (0, 0), (5, 89), (0, 0), (0, 0), (0, 0), (0, 0), (5, 90), (5, 91), (0, 0), (5, 92), (5, 93), (5, 94), (5, 95), (5, 40), (5, 39), (2, 0), (2, 0)]
def fk (c k : Nat) : Nat × Nat := (fkL c).getD k (0, 0)
def Rn (c : Nat) : String := match c with
  | 0 => RX0 | 1 => RX1 | 2 => RX2 | 3 => RX3 | 4 => RX4 | 5 => RX5 | 6 => RX6 | _ => RX7
def Tn (c : Nat) : u_T := match c with
  | 0 => TX0 | 1 => TX1 | 2 => TX2 | 3 => TX3 | 4 => TX4 | 5 => TX5 | 6 => TX6 | _ => TX7
def tyn (c : Nat) : Nat → FieldType := match c with
  | 0 => tyX0 | 1 => tyX1 | 2 => tyX2 | 3 => tyX3 | 4 => tyX4 | 5 => tyX5 | 6 => tyX6 | _ => tyX7
def nfn (c : Nat) : Nat := match c with
  | 0 => 3 | 1 => 10 | 2 => 2 | 3 => 1 | 4 => 4 | 5 => 12 | 6 => 12 | _ => 40
abbrev classes : List vw_C := [(RX0, TX0, 3), (RX1, TX1, 10), (RX2, TX2, 2), (RX3, TX3, 1), (RX4, TX4, 4), (RX5, TX5, 12), (RX6, TX6, 12), (RX7, TX7, 40)]
/-- a value of the picture (a reference is a tag) in the machine -/
def cv (ad : Nat → Nat) : Value → Value
  | .ref t => .ref (ad t)
  | v => v
def fvA (M : Mem) (c t k : Nat) : Value := match fk c k with
  | (2, _) => .long (M t k).toInt64
  | (3, d) => .ref (t + d)
  | (4, _) => .ref (M t k).toNatClampNeg
  | (5, d) => .ref d
  | _ => .int (M t k)
/-- what the heap holds at a tag -/
def cellAt (D : va_G) (κ : ClassId × ClassId × ClassId) (ad : Nat → Nat) (M : Mem) (t : Nat) (H : Heap) : Prop :=
  if kd t = 8 then H[ad t]? = some (arrV κ.1 (al t) (fun j => .int (M t j)))
  else if kd t = 9 then H[ad t]? = some (arrV κ.2.1 (rl t) (fun j => .ref (ad (rb t + j))))
  else if kd t = 10 then H[ad t]? = some (arrV κ.2.2 (rl t) (fun j => .ref (ad (rb t + j))))
  else t_OB (ad t) (D.1 (kd t)) (nfn (kd t)) (D.2 (kd t)) H (fun k => cv ad (fvA M (kd t) t k))
def ltr (j : Nat) : Int32 := match j with
  | 0 => 65 | 1 => 67 | 2 => 71 | _ => 84
/-- the whole memory -/
def Wd (D : va_G) (κ : ClassId × ClassId × ClassId) (ad : Nat → Nat) (M : Mem) (H : Heap) : Prop := (∀ t, t < 96 → cellAt D κ ad M t H) ∧ (∀ j, j < 4 → M 96 j = ltr j) ∧ ∀ j, j < 5 → M 97 j = 1
def ownA (ad : Nat → Nat) : Nat → Prop := fun q => ∃ t, t < 96 ∧ q = ad t
abbrev tysA (κ : ClassId × ClassId × ClassId) : List (ClassId × FieldType) := [(κ.1, .int), (κ.2.1, .object RX2), (κ.2.2, .array .int)]
/-- what else a state must say: the tables, the tags apart, the two static arrays, the links among nest mates -/
def Kx (D : va_G) (κ : ClassId × ClassId × ClassId) (ad : Nat → Nat) (U : State) : Prop :=
  va_K D classes (tysA κ) U ∧ (∀ i j, i < 96 → j < 96 → ad i = ad j → i = j) ∧
  va_Z RX6 "LETTERS" "[C" (.ref (ad 96)) (ownA ad) U U.heap ∧ va_Z RX6 "EQUAL_WEIGHTS" "[I" (.ref (ad 97)) (ownA ad) U U.heap ∧
  va_T .char (ad 96) 4 (fun j => .int (ltr j)) (ownA ad) U U.heap ∧ va_T .int (ad 97) 5 (fun _ => .int 1) (ownA ad) U U.heap ∧
  va_Nw (.methodLinkNest RX4 28 yX6_holds RX6) U ∧ va_Nw (.methodLinkNest RX3 28 yX6_holds RX6) U ∧ va_Nw (.methodLinkNest RX5 83 yX6_holds RX6) U
theorem Kx.moved {D : va_G} {κ : ClassId × ClassId × ClassId} {ad : Nat → Nat} {s U : State} (hW : s.WarmedH U.vm) (hq : ∀ a : Nat, a < s.heap.size → ¬ ownA ad a → U.heap[a]? = s.heap[a]?) (h : Kx D κ ad s) : Kx D κ ad U :=
  ⟨va_K.moved hW.alike h.1, h.2.1, (va_Z.moved hW.alike h.2.2.1).kept hq, (va_Z.moved hW.alike h.2.2.2.1).kept hq, (va_T.moved hW.alike h.2.2.2.2.1).kept hq, (va_T.moved hW.alike h.2.2.2.2.2.1).kept hq, va_Nw.warmM hW h.2.2.2.2.2.2.1, va_Nw.warmM hW h.2.2.2.2.2.2.2.1, va_Nw.warmM hW h.2.2.2.2.2.2.2.2⟩
/-- the words of all methods: those of the tables that any state further on keeps -/
def TB : List Cond := lw_tbl.filter goodWord
theorem TB_in {w : Cond} (h : w ∈ lw_tbl) (hg : goodWord w = true) : w ∈ TB := List.mem_filter.mpr ⟨h, hg⟩
theorem TB_good {big : List Cond} (h : ∀ w ∈ TB, w ∈ big) : GoodIn big TB := fun w hw => ⟨h w hw, good_of_word (List.mem_filter.mp hw).2⟩
/-- a method: name, code, locals, answer, frames and words of locals below it -/
abbrev MI : Type := MethodName × ByteArray × Nat × Option FieldType × Nat × Nat
abbrev MI.y (q : MI) : MethodName := q.1
abbrev MI.cc (q : MI) : ByteArray := q.2.1
abbrev MI.ml (q : MI) : Nat := q.2.2.1
abbrev MI.rt (q : MI) : Option FieldType := q.2.2.2.1
abbrev MI.rm (q : MI) : Room := { frames := q.2.2.2.2.1, cells := 0, slots := 0, locals := q.2.2.2.2.2 }
def MI.ws (q : MI) : List Cond := .code q.y q.cc q.ml q.rt :: TB
def Qx (D : va_G) (κ : ClassId × ClassId × ClassId) (ad : Nat → Nat) (Post : Option Value → Mem → Prop) : Array Value → State → Outcome → State → Prop := fun _ st oc t =>
  (∃ (r : Option Value) (M : Mem), oc = .returned (r.map (cv ad)) ∧ Post r M ∧ Wd D κ ad M t.heap) ∧ va_F (ownA ad) st t
/-- A METHOD'S CONTRACT: with these arguments and this memory it returns, and Post holds of its answer and the memory then -/
def Spec (q : MI) (av : List Value) (M : Mem) (Post : Option Value → Mem → Prop) : Prop := ∀ (l : Launch) (D : va_G) (κ : ClassId × ClassId × ClassId) (ad : Nat → Nat),
  Met l q.y q.ws q.rm (va_Pc (av.map (cv ad)) (fun U => Wd D κ ad M U.heap ∧ Kx D κ ad U)) (Qx D κ ad Post) 0 0 (ownA ad)
/-- what holds all through a method's body -/
def Cx (q : MI) (D : va_G) (κ : ClassId × ClassId × ClassId) (ad : Nat → Nat) (p : Program) (s : State) (m : MethodId) (args : Array Value) (meth : Method) (c : Code) : Prop :=
  p.tables.exec = Jvm.exec ∧ c.code = q.cc ∧ meth.sig.returnType = q.rt ∧ c.maxLocals = q.ml ∧ s.vm.findClass q.y.cls = some m.cls ∧ (∀ w ∈ q.ws, w.before args s = true) ∧ meth.locks = false ∧ Kx D κ ad s
def lvs (ad : Nat → Nat) (n : Nat) (ls : List (Option Value)) (la : Array Slot) : Prop := la.size = n ∧ lv_wf la ∧ ∀ (i : Nat) (v : Value), ls[i]? = some (some v) → la[i]? = some (.val (cv ad v))
/-- THE JUDGEMENT: the method, now at pc with these locals, this stack and this memory, returns, and Post holds -/
def G (q : MI) (pc : Nat) (ls : List (Option Value)) (st : List Value) (M : Mem) (Post : Option Value → Mem → Prop) : Prop :=
  ∀ (D : va_G) (κ : ClassId × ClassId × ClassId) (ad : Nat → Nat) (p : Program) (l : Launch) (e : Env) (s : State) (m : MethodId) (args : Array Value) (below : List Frame) (meth : Method) (c : Code) (H : Heap) (locs : List Loc) (la : Array Slot),
    Cx q D κ ad p s m args meth c → Wd D κ ad M H → va_S (ownA ad) s.heap H locs → lvs ad q.ml ls la →
    W p l e q.rm s m args below meth c H locs 0 0 (MQ below (Qx D κ ad Post) args s 0 0 (ownA ad)) (F0 m pc la (st.map (cv ad)))
