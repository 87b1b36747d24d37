/-! how a state of the abstract machine lies in the heap; contracts (ACt) and walks (AWk) over it -/
def afv (g : AG) (t : Nat) (x : Int) : Value := if t = 1 then .long (Int64.ofInt x) else if 3 ≤ t then va_rf (aref g x) else .int (Int32.ofInt x)
def arg (t : Nat) (x : Int) : Prop := if t = 0 then r32 x else if t = 1 then r64 x else if t = 2 then (x = 0 ∨ x = 1) else True
/-- what a field holds: final references stand in the shape -/
def afd (S : ASh) (V : ASt) (c : Nat) (i : Int) (k : Nat) : Int := if cty c k = 4 then aF S i k else V i k
def afs (g : AG) (S : ASh) (V : ASt) (i : Int) (c : Nat) : List Value := (List.range (nfX c)).map fun k => afv g (cty c k) (afd S V c i k)
def aarr (g : AG) (kind : Nat) (row : Int → Int) : (Nat → Int32) ⊕ (Nat → Int64) ⊕ (Nat → UInt32) ⊕ (Nat → UInt64) ⊕ (Nat → Option Nat) :=
  if kind = 1 then .inr (.inl fun j => Int64.ofInt (row j)) else if kind = 3 then .inr (.inr (.inr (.inr fun j => aref g (row j)))) else .inl fun j => Int32.ofInt (row j)
def acell (g : AG) (S : ASh) (V : ASt) (i : Int) : va_E :=
  if aT S i < 100 then .inr (aT S i, afs g S V i (aT S i)) else .inl (gA g (aT S i - 100), (aLn S i).toNat, aarr g (aT S i - 100) (V i))
def aws (g : AG) (S : ASh) (V : ASt) : va_W := (List.range (aN S)).map fun i => (gB g + i, acell g S V i)
def acok (S : ASh) (V : ASt) (i : Int) : Prop :=
  if aT S i < 100 then aT S i < 14 ∧ ∀ k : Nat, k < nfX (aT S i) → arg (cty (aT S i) k) (V i k) else aT S i < 104 ∧ 0 ≤ aLn S i ∧ aLn S i < 2147483648 ∧ ∀ j : Nat, arg (aT S i - 100) (V i j)
def AHp (g : AG) (S : ASh) (V : ASt) (H : Heap) : Prop := va_P (gD g) vwCl (aws g S V) H ∧ ∀ i : Nat, i < aN S → acok S V i
def ARep (g : AG) (S : ASh) (V : ASt) (H : Heap) : Prop := H.size = gB g + aN S ∧ AHp g S V H
/-- the links of private constructors -/
def nestW : List (String × Nat × String) := [("SundayGame", 20, "SundayGame$Game"), ("SundayGame$Game", 29, "SundayGame$Tests"), ("SundayGame", 39, "SundayGame$Slate"), ("SundayGame", 46, "SundayGame$Spring"), ("SundayGame$Spring", 17, "SundayGame$Slate"), ("SundayGame", 53, "SundayGame$History"), ("SundayGame$Worths", 17, "SundayGame$Slate"), ("SundayGame", 95, "SundayGame$Match")]
abbrev nestC (q : String × Nat × String) : Cond := .methodLinkNest q.1 q.2.1 ⟨q.2.2, "<init>", "()V"⟩ "SundayGame"
abbrev tyG (g : AG) : List (ClassId × FieldType) := [(gA g 0, .int), (gA g 1, .long), (gA g 2, .boolean), (gA g 3, .object "SundayGame$Slate")]
abbrev tx0 : String := "board piece at of ever stuck loses draws wins may not up down off when or and all spot goal who min max "
abbrev tx1 : String := ";,()[]<>=+-*/%"
def lenT : List Nat := [104, 14]
def bytT : List (List Int32) := [tx0.toList.map (fun c => Int32.ofNat c.toNat), tx1.toList.map (fun c => Int32.ofNat c.toNat)]
/-- what the law's start gives of texts and of the statics that String's own methods read -/
def AStr (g : AG) (U : State) : Prop := vk_R "SundayGame$Tokens" 31 tx0 (gK g 0) U ∧ vk_R "SundayGame$Tokens" 79 tx1 (gK g 1) U ∧ vk_S 2 lenT bytT (gK g) (fun i => gK g (3 + i)) (gM g) U U.heap ∧ va_Z "java/lang/String" "COMPACT_STRINGS" "Z" (.int 1) (gM g) U U.heap ∧ (va_Z "jdk/internal/util/Preconditions" "SIOOBE_FORMATTER" "Ljava/util/function/BiFunction;" .null (gM g) U U.heap ∨ va_Z "jdk/internal/util/Preconditions" "SIOOBE_FORMATTER" "Ljava/util/function/BiFunction;" (.ref (gK g 7)) (gM g) U U.heap) ∧ va_X (gK g 2) (gL g) (gX g) U U.heap ∧ ¬ gM g (gK g 2) ∧ gK g 2 < U.heap.size
def AKK (g : AG) (U : State) : Prop := va_K (gD g) vwCl (tyG g) U ∧ (∀ q ∈ nestW, va_Nw (nestC q) U) ∧ va_AO "SundayGame$Slate" U ∧ AStr g U
/-- a method: its class, name, code, locals, answer -/
abbrev AM : Type := String × MethodName × ByteArray × Nat × Option FieldType
def aw (mi : AM) : List Cond := .code mi.2.1 mi.2.2.1 mi.2.2.2.1 mi.2.2.2.2 :: tG
def ACx (mi : AM) (p : Program) (s : State) (m : MethodId) (args : Array Value) (meth : Method) (c : Code) (g : AG) : Prop :=
  p.tables.exec = Jvm.exec ∧ c.code = mi.2.2.1 ∧ c.maxLocals = mi.2.2.2.1 ∧ meth.sig.returnType = mi.2.2.2.2 ∧ s.vm.findClass mi.1 = some m.cls ∧ (∀ w ∈ tG, w.before args s = true) ∧ meth.locks = false ∧ (mi.2.1.name = "<init>" → meth.name = "<init>") ∧ AKK g s
def ALv (g : AG) (la : Array Slot) (n : Nat) (ls : List (Option AV)) : Prop := la.size = n ∧ lv_wf la ∧ ∀ (i : Nat) (v : AV), ls[i]? = some (some v) → la[i]? = some (.val (acv g v)) ∧ aok v
abbrev arm (d mc ms : Nat) : Room := { frames := d, cells := mc, slots := ms, locals := 64 * d }
def AQ (g : AG) (r : Option AV) (S' : ASh) (V' : ASt) : Array Value → State → Outcome → State → Prop := fun _ st o t => o = .returned (r.map (acv g)) ∧ (∀ v, r = some v → aok v) ∧ ARep g S' V' t.heap ∧ va_F (gM g) st t
/-- a walk: from this frame and state, at launches of which Z holds, the method comes to that answer and that state -/
def AWz (Z : AG → Prop) (mi : AM) (d mc ms cs sl pc : Nat) (ls : List (Option AV)) (st : List AV) (S : ASh) (V : ASt) (r : Option AV) (S' : ASh) (V' : ASt) : Prop :=
  ∀ (p : Program) (l : Launch) (e : Env) (s : State) (m : MethodId) (args : Array Value) (below : List Frame) (meth : Method) (c : Code) (g : AG) (H : Heap) (locs : List Loc) (la : Array Slot),
    ACx mi p s m args meth c g → (gB g ≤ s.heap.size ∧ s.heap.size + cs = gB g + aN S ∧ Z g) → va_S (gM g) s.heap H locs → AHp g S V H → ALv g la mi.2.2.2.1 ls → (∀ v ∈ st, aok v) →
    W p l e (arm d mc ms) s m args below meth c H locs cs sl (MQ below (AQ g r S' V') args s mc ms (gM g)) (F0 m pc la (st.map (acv g)))
abbrev AWk : AM → Nat → Nat → Nat → Nat → Nat → Nat → List (Option AV) → List AV → ASh → ASt → Option AV → ASh → ASt → Prop := AWz (fun _ => True)
/-- a method's contract: from these arguments and this state it comes to that answer and that state -/
def ACt (mi : AM) (d mc ms : Nat) (as : List AV) (S : ASh) (V : ASt) (r : Option AV) (S' : ASh) (V' : ASt) : Prop :=
  ∀ (l : Launch) (g : AG), Met l mi.2.1 (aw mi) (arm d mc ms) (fun v U => v = (as.map (acv g)).toArray ∧ (∀ x ∈ as, aok x) ∧ ARep g S V U.heap ∧ AKK g U) (AQ g r S' V') mc ms (gM g)
-- ---- lookups
theorem aws_at (g : AG) (S : ASh) (V : ASt) {i : Nat} (h : i < aN S) : (aws g S V)[i]? = some (gB g + i, acell g S V i) := by
  unfold aws
  rw [List.getElem?_map, List.getElem?_range h]
  rfl
theorem aws_len (g : AG) (S : ASh) (V : ASt) : (aws g S V).length = aN S := by simp [aws]
theorem aws_D (g : AG) (S : ASh) (V : ASt) : va_D (gM g) (aws g S V) := by
  refine ⟨fun i j p q hi hj h => ?_, fun k q hk => ?_⟩
  · have li := (List.getElem?_eq_some_iff.mp hi).1
    have lj := (List.getElem?_eq_some_iff.mp hj).1
    rw [aws_len] at li lj
    rw [aws_at g S V li] at hi
    rw [aws_at g S V lj] at hj
    cases hi; cases hj
    exact Nat.add_left_cancel h
  · have lk := (List.getElem?_eq_some_iff.mp hk).1
    rw [aws_len] at lk
    rw [aws_at g S V lk] at hk
    cases hk
    exact Nat.le_add_right _ _
/-- only row i differs -/
theorem aws_set (g : AG) (S : ASh) {V V' : ASt} {i : Nat} (h : i < aN S) (hV : ∀ j : Int, j ≠ i → V' j = V j) : (aws g S V).set i (gB g + i, acell g S V' i) = aws g S V' := by
  apply List.ext_getElem?
  intro j
  by_cases hj : j < aN S
  · rw [aws_at g S V' hj]
    by_cases hij : i = j
    · subst hij
      rw [List.getElem?_set_self (by rw [aws_len]; exact hj)]
    · rw [List.getElem?_set_ne hij, aws_at g S V hj]
      have e : V' (j : Int) = V (j : Int) := hV j (by omega)
      unfold acell afs afd
      simp only [e]
  · rw [List.getElem?_eq_none (by rw [List.length_set, aws_len]; omega), List.getElem?_eq_none (by rw [aws_len]; omega)]
theorem acok_row {S : ASh} {V V' : ASt} {i : Int} (h : V' i = V i) : acok S V' i ↔ acok S V i := by
  unfold acok
  rw [h]
theorem acv_I (g : AG) (x : Int) : acv g (aI x) = .int (Int32.ofInt x) := rfl
theorem acv_L (g : AG) (x : Int) : acv g (aL x) = .long (Int64.ofInt x) := rfl
theorem acv_R (g : AG) (a : Int) : acv g (aR a) = va_rf (aref g a) := rfl
theorem aref_nn (g : AG) {a : Int} (h : 0 ≤ a) : aref g a = some (gB g + a.toNat) := if_pos h
theorem acv_Rn (g : AG) {a : Int} (h : 0 ≤ a) : acv g (aR a) = .ref (gB g + a.toNat) := by rw [acv_R, aref_nn g h]; rfl
-- ---- what of the start's words holds further on
theorem AStr_moved {g : AG} {s U : State} (hW : s.WarmedH U.vm) {H : Heap} {locs : List Loc} (hS : va_S (gM g) s.heap H locs) (hU : U.heap = H) (h : AStr g s) : AStr g U := by
  obtain ⟨h1, h2, h3, h4, h5, h6, h7, h8⟩ := h
  refine ⟨h1.warm hW, h2.warm hW, ?_, ?_, ?_, ?_, h7, ?_⟩
  · rw [hU]; exact (h3.moved hW.alike).kept hS.2.1
  · rw [hU]; exact (h4.moved hW.alike).kept hS.2.1
  · rw [hU]; exact h5.elim (fun h => Or.inl ((h.moved hW.alike).kept hS.2.1)) (fun h => Or.inr ((h.moved hW.alike).kept hS.2.1))
  · rw [hU]; exact (h6.moved hW.alike).kept (hS.2.1 _ h8 h7)
  · rw [hU]; exact Nat.lt_of_lt_of_le h8 hS.1
theorem AKK_moved {g : AG} {s U : State} (hW : s.WarmedH U.vm) {H : Heap} {locs : List Loc} (hS : va_S (gM g) s.heap H locs) (hU : U.heap = H) (h : AKK g s) : AKK g U := by
  obtain ⟨h1, h2, h3, h4⟩ := h
  exact ⟨va_K.moved hW.alike h1, fun q hq => (h2 q hq).warmM hW, h3.moved hW.alike, AStr_moved hW hS hU h4⟩
