/-! triples over the pure functions, and words of bits over naturals -/
/-- o ends, and what it gives is so -/
def Tr (o : Option (Int × ASt)) (Q : Int → ASt → Prop) : Prop := ∃ r V, o = some (r, V) ∧ Q r V
theorem Tr_ret {Q : Int → ASt → Prop} {r : Int} {V : ASt} (h : Q r V) : Tr (some (r, V)) Q := ⟨r, V, rfl, h⟩
theorem Tr_gd {Q : Int → ASt → Prop} {b : Bool} {a : Option (Int × ASt)} (h : b = true) (k : Tr a Q) : Tr (gd b a) Q := by rw [gd_t h]; exact k
theorem Tr_wV {Q : Int → ASt → Prop} {e : ASt} {k : ASt → Option (Int × ASt)} (h : ∀ V1, V1 = e → Tr (k V1) Q) : Tr (wV e k) Q := h e rfl
theorem Tr_bnd {P Q : Int → ASt → Prop} {o : Option (Int × ASt)} {k : Int → ASt → Option (Int × ASt)} (h : Tr o P) (hk : ∀ r V, P r V → Tr (k r V) Q) : Tr (bnd o k) Q := by
  obtain ⟨r, V, e, hp⟩ := h
  rw [bnd_s e]
  exact hk r V hp
theorem Tr_bq {Q : Int → ASt → Prop} {o : Option (Int × ASt)} {k : Int → ASt → Option (Int × ASt)} {r : Int} {V : ASt} (h : o = some (r, V)) (hk : Tr (k r V) Q) : Tr (bnd o k) Q := by
  rw [bnd_s h]
  exact hk
theorem Tr_if {Q : Int → ASt → Prop} {c : Prop} [Decidable c] {a b : Option (Int × ASt)} (h1 : c → Tr a Q) (h2 : ¬ c → Tr b Q) : Tr (if c then a else b) Q := by
  by_cases h : c
  · rw [if_pos h]; exact h1 h
  · rw [if_neg h]; exact h2 h
theorem Tr_t {Q : Int → ASt → Prop} {c : Prop} [Decidable c] {a b : Option (Int × ASt)} (h : c) (h1 : Tr a Q) : Tr (if c then a else b) Q := by rw [if_pos h]; exact h1
theorem Tr_f {Q : Int → ASt → Prop} {c : Prop} [Decidable c] {a b : Option (Int × ASt)} (h : ¬ c) (h1 : Tr b Q) : Tr (if c then a else b) Q := by rw [if_neg h]; exact h1
theorem Tr_mono {P Q : Int → ASt → Prop} {o : Option (Int × ASt)} (h : Tr o P) (hq : ∀ r V, P r V → Q r V) : Tr o Q := by
  obtain ⟨r, V, e, hp⟩ := h
  exact ⟨r, V, e, hq r V hp⟩
theorem Tr_eq {Q : Int → ASt → Prop} {o : Option (Int × ASt)} {r : Int} {V : ASt} (h : o = some (r, V)) (hq : Q r V) : Tr o Q := ⟨r, V, h, hq⟩
/-- a field or a place of an array is set -/
theorem Tr_set {Q : Int → ASt → Prop} {V : ASt} {a j x : Int} {k : ASt → Option (Int × ASt)} (h : ∀ V1 : ASt, (V1 a = upI (V a) j x) → (∀ b, b ≠ a → V1 b = V b) → Tr (k V1) Q) : Tr (wV (aset V a j x) k) Q :=
  h _ (aset_s V a j x) (fun _ hb => aset_n V j x hb)
theorem aget (V : ASt) (a j x b i : Int) : aset V a j x b i = if b = a ∧ i = j then x else V b i := by
  by_cases h : b = a
  · subst h
    rw [aset_s]
    unfold upI
    by_cases h2 : i = j
    · rw [if_pos h2, if_pos ⟨rfl, h2⟩]
    · rw [if_neg h2, if_neg (fun h => h2 h.2)]
  · rw [aset_n _ _ _ h, if_neg (fun h2 => h h2.1)]
-- ---- bits over naturals
theorem tnN {n : Nat} (h : n < 2147483648) : (Int32.ofInt (n : Int)).toBitVec.toNat = n := by
  have := tn_i (n : Int)
  rw [Int.emod_eq_of_lt (by omega) (by omega)] at this
  omega
theorem toI32 {y : Int32} {n : Nat} (h : y.toBitVec.toNat = n) (hn : n < 2147483648) : y.toInt = (n : Int) := by
  show y.toBitVec.toInt = _
  rw [BitVec.toInt_eq_toNat_of_lt (by omega), h]
theorem and_n {n m : Nat} (h : n < 2147483648) (h2 : m < 2147483648) : and32 n m = ((n &&& m : Nat) : Int) := by
  unfold and32
  refine toI32 ?_ (Nat.lt_of_le_of_lt Nat.and_le_left h)
  rw [Int32.toBitVec_and, BitVec.toNat_and, tnN h, tnN h2]
theorem or_n {n m : Nat} (h : n < 2147483648) (h2 : m < 2147483648) : or32 n m = ((n ||| m : Nat) : Int) := by
  unfold or32
  refine toI32 ?_ (Nat.or_lt_two_pow (n := 31) h h2)
  rw [Int32.toBitVec_or, BitVec.toNat_or, tnN h, tnN h2]
theorem xor_n {n m : Nat} (h : n < 2147483648) (h2 : m < 2147483648) : xor32 n m = ((n ^^^ m : Nat) : Int) := by
  unfold xor32
  refine toI32 ?_ (Nat.xor_lt_two_pow (n := 31) h h2)
  rw [Int32.toBitVec_xor, BitVec.toNat_xor, tnN h, tnN h2]
theorem shr_n {n s : Nat} (h : n < 2147483648) (h2 : s < 32) : shr32 n s = ((n >>> s : Nat) : Int) := by
  rw [shr32_e _ ⟨by omega, by omega⟩ s h2, Nat.shiftRight_eq_div_pow]
  norm_cast
theorem shl_n {n s : Nat} (h2 : s < 32) (h : n * 2 ^ s < 2147483648) : shl32 n s = ((n * 2 ^ s : Nat) : Int) := by
  unfold shl32
  refine toI32 ?_ h
  have hn : n < 2147483648 := Nat.lt_of_le_of_lt (Nat.le_mul_of_pos_right _ (Nat.two_pow_pos s)) h
  rw [pk_shl _ _ s (sm_i s h2), tnN hn, Nat.mod_eq_of_lt (by omega)]
