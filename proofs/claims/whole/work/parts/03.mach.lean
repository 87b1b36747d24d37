/-! THE ABSTRACT MACHINE: values are mathematical integers; a heap is a shape and one function V cell slot; contracts and walks said over these. -/
/-- a value: an int, a long, a cell's number (0, 1, .. the cells made since the law began; -1 null; -2, -3 the two String constants, -4 the law's script) -/
abbrev AV : Type := Int ⊕ (Int ⊕ Int)
abbrev aI (x : Int) : AV := Sum.inl x
abbrev aL (x : Int) : AV := Sum.inr (Sum.inl x)
abbrev aR (x : Int) : AV := Sum.inr (Sum.inr x)
abbrev ASt : Type := Int → Int → Int
/-- how many cells; a cell's tag: its class's number, or 100 and its array's kind (0 int, 1 long, 2 boolean, 3 slates); an array's length; final references -/
abbrev ASh : Type := Nat × (Int → Nat) × (Int → Int) × (Int → Int → Int)
def aN (S : ASh) : Nat := S.1
def aT (S : ASh) : Int → Nat := S.2.1
def aLn (S : ASh) : Int → Int := S.2.2.1
def aF (S : ASh) : Int → Int → Int := S.2.2.2
/-- what the launch decides: where the cells begin, the classes' numbers and slots, the array classes, where the two texts and their bytes are (and, third, the script), the script's length and ints -/
abbrev AG : Type := Nat × (Nat → ClassId) × (Nat → Nat → Nat) × (Nat → ClassId) × (Nat → Nat) × (Nat → Nat) × Nat × (Nat → Int32)
def gB (g : AG) : Nat := g.1
def gD (g : AG) : va_G := (g.2.1, g.2.2.1)
def gA (g : AG) : Nat → ClassId := g.2.2.2.1
def gK (g : AG) : Nat → Nat := g.2.2.2.2.1
def gV (g : AG) : Nat → Nat := g.2.2.2.2.2.1
def gL (g : AG) : Nat := g.2.2.2.2.2.2.1
def gX (g : AG) : Nat → Int32 := g.2.2.2.2.2.2.2
def gM (g : AG) : Nat → Prop := fun q => gB g ≤ q
def aref (g : AG) (a : Int) : Option Nat := if 0 ≤ a then some (gB g + a.toNat) else if a = -1 then none else some (gK g (-2 - a).toNat)
def acv (g : AG) : AV → Value
  | .inl x => .int (Int32.ofInt x)
  | .inr (.inl x) => .long (Int64.ofInt x)
  | .inr (.inr a) => va_rf (aref g a)
def r32 (x : Int) : Prop := -2147483648 ≤ x ∧ x < 2147483648
def r64 (x : Int) : Prop := -9223372036854775808 ≤ x ∧ x < 9223372036854775808
def aok : AV → Prop
  | .inl x => r32 x
  | .inr (.inl x) => r64 x
  | .inr (.inr _) => True
/-- a word of 32, 64 bits as the integer that it is -/
def w32 (x : Int) : Int := (Int32.ofInt x).toInt
def w64 (x : Int) : Int := (Int64.ofInt x).toInt
def shl32 (x y : Int) : Int := (Int32.ofInt x <<< (Int32.ofInt y &&& 31)).toInt
def shr32 (x y : Int) : Int := (Int32.ofInt x >>> (Int32.ofInt y &&& 31)).toInt
def ushr32 (x y : Int) : Int := ((Int32.ofInt x).toUInt32 >>> ((Int32.ofInt y).toUInt32 &&& Int32.toUInt32 31)).toInt32.toInt
def and32 (x y : Int) : Int := (Int32.ofInt x &&& Int32.ofInt y).toInt
def or32 (x y : Int) : Int := (Int32.ofInt x ||| Int32.ofInt y).toInt
def xor32 (x y : Int) : Int := (Int32.ofInt x ^^^ Int32.ofInt y).toInt
def chr16 (x : Int) : Int := ((Int32.ofInt x).toUInt32 % 65536).toInt32.toInt
def shl64 (x y : Int) : Int := (Int64.ofInt x <<< ((Int32.ofInt y).toInt64 &&& 63)).toInt
def ushr64 (x y : Int) : Int := ((Int64.ofInt x).toUInt64 >>> ((Int32.ofInt y).toInt64.toUInt64 &&& Int64.toUInt64 63)).toInt64.toInt
def and64 (x y : Int) : Int := (Int64.ofInt x &&& Int64.ofInt y).toInt
def or64 (x y : Int) : Int := (Int64.ofInt x ||| Int64.ofInt y).toInt
def cmp64 (x y : Int) : Int := if y < x then 1 else if x = y then 0 else -1
theorem r32_toInt (x : Int32) : r32 x.toInt := ⟨by have := Int32.le_toInt x; omega, by have := Int32.toInt_lt x; omega⟩
theorem r64_toInt (x : Int64) : r64 x.toInt := ⟨by have := Int64.le_toInt x; omega, by have := Int64.toInt_lt x; omega⟩
theorem i32_id {x : Int} (h : r32 x) : (Int32.ofInt x).toInt = x := Int32.toInt_ofInt_of_le (by have := h.1; omega) (by have := h.2; omega)
theorem i64_id {x : Int} (h : r64 x) : (Int64.ofInt x).toInt = x := Int64.toInt_ofInt_of_le (by have := h.1; omega) (by have := h.2; omega)
theorem w32_id {x : Int} (h : -2147483648 ≤ x) (h2 : x < 2147483648) : w32 x = x := i32_id ⟨h, h2⟩
theorem w64_id {x : Int} (h : -9223372036854775808 ≤ x) (h2 : x < 9223372036854775808) : w64 x = x := i64_id ⟨h, h2⟩
theorem w32_ok (x : Int) : r32 (w32 x) := r32_toInt _
theorem w64_ok (x : Int) : r64 (w64 x) := r64_toInt _
theorem i32_w (x : Int) : Int32.ofInt (w32 x) = Int32.ofInt x := Int32.ofInt_toInt _
theorem i64_w (x : Int) : Int64.ofInt (w64 x) = Int64.ofInt x := Int64.ofInt_toInt _
theorem i32_lt {x y : Int} (hx : r32 x) (hy : r32 y) : Int32.ofInt x < Int32.ofInt y ↔ x < y := by rw [Int32.lt_iff_toInt_lt, i32_id hx, i32_id hy]
theorem i32_le {x y : Int} (hx : r32 x) (hy : r32 y) : Int32.ofInt x ≤ Int32.ofInt y ↔ x ≤ y := by rw [Int32.le_iff_toInt_le, i32_id hx, i32_id hy]
theorem i32_eq {x y : Int} (hx : r32 x) (hy : r32 y) : Int32.ofInt x = Int32.ofInt y ↔ x = y := by rw [← Int32.toInt_inj, i32_id hx, i32_id hy]
theorem i64_lt {x y : Int} (hx : r64 x) (hy : r64 y) : Int64.ofInt x < Int64.ofInt y ↔ x < y := by rw [Int64.lt_iff_toInt_lt, i64_id hx, i64_id hy]
theorem i64_eq {x y : Int} (hx : r64 x) (hy : r64 y) : Int64.ofInt x = Int64.ofInt y ↔ x = y := by rw [← Int64.toInt_inj, i64_id hx, i64_id hy]
theorem i32_0 : Int32.ofInt 0 = 0 := rfl
theorem r32_0 : r32 0 := ⟨by decide, by decide⟩
theorem i32_div {x y : Int} (hx : r32 x) (hy : r32 y) : Int32.ofInt x / Int32.ofInt y = Int32.ofInt (Int.tdiv x y) := by
  apply Int32.toInt_inj.mp
  rw [Int32.toInt_div, i32_id hx, i32_id hy, Int32.toInt_ofInt]
theorem i32_rem {x y : Int} (hx : r32 x) (hy : r32 y) : Int32.ofInt x - Int32.ofInt x / Int32.ofInt y * Int32.ofInt y = Int32.ofInt (Int.tmod x y) := by
  rw [i32_div hx hy, ← Int32.ofInt_mul, ← Int32.ofInt_sub]
  congr 1
  have := Int.tmod_add_tdiv_mul x y
  omega
theorem i64_div {x y : Int} (hx : r64 x) (hy : r64 y) : Int64.ofInt x / Int64.ofInt y = Int64.ofInt (Int.tdiv x y) := by
  apply Int64.toInt_inj.mp
  rw [Int64.toInt_div, i64_id hx, i64_id hy, Int64.toInt_ofInt]
theorem i64_rem {x y : Int} (hx : r64 x) (hy : r64 y) : Int64.ofInt x - Int64.ofInt x / Int64.ofInt y * Int64.ofInt y = Int64.ofInt (Int.tmod x y) := by
  rw [i64_div hx hy, ← Int64.ofInt_mul, ← Int64.ofInt_sub]
  congr 1
  have := Int.tmod_add_tdiv_mul x y
  omega
theorem i32_64 {x : Int} (hx : r32 x) : (Int32.ofInt x).toInt64 = Int64.ofInt x := by
  apply Int64.toInt_inj.mp
  rw [Int32.toInt_toInt64, i32_id hx, i64_id ⟨by have := hx.1; omega, by have := hx.2; omega⟩]
theorem r32_64 {x : Int} (hx : r32 x) : r64 x := ⟨by have := hx.1; omega, by have := hx.2; omega⟩
theorem i64_cmp {x y : Int} (hx : r64 x) (hy : r64 y) : lg_cmp (Int64.ofInt x) (Int64.ofInt y) = Int32.ofInt (cmp64 x y) := by
  unfold lg_cmp cmp64
  by_cases h : y < x
  · rw [if_pos (show Int64.ofInt x > Int64.ofInt y from (i64_lt hy hx).mpr h), if_pos h]; rfl
  · rw [if_neg (show ¬ Int64.ofInt x > Int64.ofInt y from fun q => h ((i64_lt hy hx).mp q)), if_neg h]
    by_cases h2 : x = y
    · rw [if_pos ((i64_eq hx hy).mpr h2), if_pos h2]; rfl
    · rw [if_neg (fun q => h2 ((i64_eq hx hy).mp q)), if_neg h2]; rfl
theorem cmp64_ok (x y : Int) : r32 (cmp64 x y) := by
  unfold cmp64 r32
  split
  · omega
  · split <;> omega
theorem tdiv_ok {x y : Int} (hx : r32 x) (hy : r32 y) : r32 (w32 (Int.tdiv x y)) := w32_ok _
theorem tmod_le (x y : Int) : -(x.natAbs : Int) ≤ Int.tmod x y ∧ Int.tmod x y ≤ x.natAbs := by
  have h : (Int.tmod x y).natAbs ≤ x.natAbs := by
    rw [Int.natAbs_tmod]
    exact Nat.mod_le _ _
  omega
theorem tmod_ok {x y : Int} (hx : r32 x) (hy0 : y ≠ 0) : r32 (Int.tmod x y) := by
  have h := tmod_le x y
  have h1 := hx.1
  have h2 := hx.2
  refine ⟨by omega, ?_⟩
  by_cases h0 : 0 ≤ x
  · omega
  · have h3 : Int.tmod x y ≤ 0 := by
      have := Int.tmod_nonneg (-y) (a := -x) (by omega)
      rw [Int.neg_tmod, Int.tmod_neg] at this
      omega
    omega
theorem tmodL_ok {x y : Int} (hx : r64 x) (hy0 : y ≠ 0) : r64 (Int.tmod x y) := by
  have h := tmod_le x y
  have h1 := hx.1
  have h2 := hx.2
  refine ⟨by omega, ?_⟩
  by_cases h0 : 0 ≤ x
  · omega
  · have h3 : Int.tmod x y ≤ 0 := by
      have := Int.tmod_nonneg (-y) (a := -x) (by omega)
      rw [Int.neg_tmod, Int.tmod_neg] at this
      omega
    omega
theorem vp_in_i {i : Int} {n : Int} (hi : r32 i) (h0 : 0 ≤ i) (h : i < n) : vp_in (Int32.ofInt i) n.toNat := by
  rw [vp_in_iff, i32_id hi]
  omega
theorem clamp_i {i : Int} (hi : r32 i) : (Int32.ofInt i).toNatClampNeg = i.toNat := by
  show (Int32.ofInt i).toInt.toNat = i.toNat
  rw [i32_id hi]
