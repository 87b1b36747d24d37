/-! tools for the pure part: rows, bits, fills -/
theorem gd_tt {α : Type} (a : Option α) : gd true a = a := rfl
theorem wV_e {α : Type} (V : ASt) (k : ASt → Option α) : wV V k = k V := rfl
theorem bnd_e {α : Type} (r : Int) (V : ASt) (k : Int → ASt → Option α) : bnd (some (r, V)) k = k r V := rfl
theorem arow_arow (V : ASt) (a : Int) (f g : Int → Int) : arow (arow V a f) a g = arow V a g := by
  funext b
  unfold arow
  by_cases h : b = a
  · rw [if_pos h, if_pos h]
  · rw [if_neg h, if_neg h, if_neg h]
theorem arow_self (V : ASt) (a : Int) : arow V a (V a) = V := by
  funext b
  unfold arow
  by_cases h : b = a
  · rw [if_pos h, h]
  · rw [if_neg h]
theorem arow_eq {V : ASt} {a : Int} {f g : Int → Int} (h : ∀ j, f j = g j) : arow V a f = arow V a g := by rw [show f = g from funext h]
theorem aset_s (V : ASt) (a k x : Int) : aset V a k x a = upI (V a) k x := arow_s _ _ _
theorem aset_n (V : ASt) {a b : Int} (k x : Int) (h : b ≠ a) : aset V a k x b = V b := arow_n _ _ h
theorem aset_ss (V : ASt) (a k x : Int) : aset V a k x a k = x := by rw [aset_s, upI_s]
theorem aset_sn (V : ASt) (a : Int) {k j : Int} (x : Int) (h : j ≠ k) : aset V a k x a j = V a j := by rw [aset_s, upI_n _ _ h]
theorem FU_v : FU = 100000 := rfl
-- ---- bits
theorem tn_i (x : Int) : ((Int32.ofInt x).toBitVec.toNat : Int) = x % 4294967296 := by
  rw [show (Int32.ofInt x).toBitVec = BitVec.ofInt 32 x from rfl, BitVec.toNat_ofInt]
  have : (0 : Int) ≤ x % 4294967296 := Int.emod_nonneg _ (by decide)
  rw [show ((2 : Nat) ^ 32 : Nat) = 4294967296 from rfl]
  omega
theorem sm_i : ∀ n : Nat, n < 32 → ((Int32.ofInt n &&& 31).toBitVec.smod 32).toNat = n := by decide +kernel
theorem su_i : ∀ n : Nat, n < 32 → (((Int32.ofInt n).toUInt32 &&& Int32.toUInt32 31).toBitVec % 32).toNat = n := by decide +kernel
theorem shr32_e (x : Int) (hx : r32 x) (n : Nat) (hn : n < 32) : shr32 x n = x / 2 ^ n := by
  unfold shr32
  rw [pk_shr _ _ n (sm_i n hn), i32_id hx, Int.shiftRight_eq_div_pow]
  norm_cast
theorem and32_mask (x : Int) (k : Nat) (hk : k ≤ 30) : and32 x (2 ^ k - 1) = x % 2 ^ k := by
  have h2 : (2 : Int) ^ k ≤ 2 ^ 30 := by
    have : (2 : Nat) ^ k ≤ 2 ^ 30 := Nat.pow_le_pow_right (by decide) hk
    exact_mod_cast this
  have h1 : (1 : Int) ≤ 2 ^ k := by
    have : (1 : Nat) ≤ 2 ^ k := Nat.one_le_two_pow
    exact_mod_cast this
  unfold and32
  have hm : (Int32.ofInt (2 ^ k - 1)).toBitVec.toNat = 2 ^ k - 1 := by
    have h := tn_i (2 ^ k - 1)
    rw [Int.emod_eq_of_lt (by omega) (by omega)] at h
    have h3 : ((2 ^ k - 1 : Nat) : Int) = 2 ^ k - 1 := by
      rw [Int.natCast_sub Nat.one_le_two_pow]
      norm_cast
    omega
  rw [pk_and _ k hm]
  have hd : ((2 : Int) ^ k) ∣ 4294967296 := by
    refine ⟨2 ^ (32 - k), ?_⟩
    rw [← Int.pow_add, show k + (32 - k) = 32 by omega]
    rfl
  have h4 : (((Int32.ofInt x).toBitVec.toNat % 2 ^ k : Nat) : Int) = x % 2 ^ k := by
    rw [Int.natCast_emod, tn_i]
    have : (((2 : Nat) ^ k : Nat) : Int) = 2 ^ k := by norm_cast
    rw [this, Int.emod_emod_of_dvd _ hd]
  have h5 : (Int32.ofInt x).toBitVec.toNat % 2 ^ k < 2 ^ 31 := by
    have := Int.emod_lt_of_pos x (show (0 : Int) < 2 ^ k by omega)
    have : ((2 : Int) ^ 30) < 2 ^ 31 := by decide
    have e : (((2 : Nat) ^ 31 : Nat) : Int) = 2 ^ 31 := by norm_cast
    omega
  rw [nI_toInt h5, h4]
theorem and32_1 (x : Int) : and32 x 1 = x % 2 := and32_mask x 1 (by decide)
theorem and32_3 (x : Int) : and32 x 3 = x % 4 := and32_mask x 2 (by decide)
theorem and32_255 (x : Int) : and32 x 255 = x % 256 := and32_mask x 8 (by decide)
theorem and32_63 (x : Int) : and32 x 63 = x % 64 := and32_mask x 6 (by decide)
theorem and32_31 (x : Int) : and32 x 31 = x % 32 := and32_mask x 5 (by decide)
theorem ushr32_e (x : Int) (hx : r32 x) (n : Nat) (h0 : 0 < n) (hn : n < 32) : ushr32 x n = (x % 4294967296) / 2 ^ n := by
  unfold ushr32
  have h := pk_ushr (Int32.ofInt x) (Int32.ofInt n) n (su_i n hn)
  have h1 : (((((Int32.ofInt x).toUInt32 >>> ((Int32.ofInt n).toUInt32 &&& Int32.toUInt32 31)).toInt32).toBitVec.toNat : Nat) : Int) = (x % 4294967296) / 2 ^ n := by
    rw [h, Int.natCast_ediv, tn_i]
    have e : (((2 : Nat) ^ n : Nat) : Int) = 2 ^ n := by norm_cast
    rw [e]
  have h2 : (x % 4294967296) / 2 ^ n < 2147483648 := by
    have h3 : (x % 4294967296) < 4294967296 := Int.emod_lt_of_pos _ (by decide)
    have h4 : (0 : Int) ≤ x % 4294967296 := Int.emod_nonneg _ (by decide)
    refine Int.ediv_lt_of_lt_mul (Int.pow_pos (by decide)) ?_
    have h5 : (2 : Int) ≤ 2 ^ n := by
      have : (2 : Nat) ^ 1 ≤ 2 ^ n := Nat.pow_le_pow_right (by decide) h0
      exact_mod_cast this
    omega
  generalize ((Int32.ofInt x).toUInt32 >>> ((Int32.ofInt n).toUInt32 &&& Int32.toUInt32 31)).toInt32 = y at h1
  have h6 : y.toInt = (y.toBitVec.toNat : Int) := by
    show y.toBitVec.toInt = _
    rw [BitVec.toInt_eq_toNat_of_lt]
    omega
  rw [h6, h1]
-- ---- fill
theorem fill_loop {a x n : Int} (hO : isO S0 a 100 = true) (hL : aLn S0 a = n) (hn2 : n ≤ 5000) : ∀ (k : Nat) (V : ASt) (i : Int), 0 ≤ i → i ≤ n → n - i < k → b_Arrays_fill_L5 S0 a x n k V i = some (0, arow V a (fun j => if i ≤ j ∧ j < n then x else V a j)) := by
  intro k
  induction k with
  | zero => intro V i h0 h1 h2; omega
  | succ k ih =>
    intro V i h0 h1 h2
    rw [b_Arrays_fill_L5]
    by_cases h : n ≤ i
    · rw [if_pos h]
      refine congrArg (fun W => some ((0 : Int), W)) ?_
      conv => lhs; rw [← arow_self V a]
      refine arow_eq fun j => ?_
      rw [if_neg (by omega)]
    · rw [if_neg h, gd_t (isA_t (c := 0) hO hL h0 (by omega)), wV_e, w32_id (by omega) (by omega), ih _ _ (by omega) (by omega) (by omega)]
      unfold aset
      rw [arow_arow, arow_s]
      refine congrArg (fun W => some ((0 : Int), W)) ?_
      refine arow_eq fun j => ?_
      by_cases hj : j = i
      · subst hj; rw [if_neg (by omega), upI_s, if_pos (by omega)]
      · rw [upI_n _ _ hj]
        by_cases hj2 : i + 1 ≤ j ∧ j < n
        · rw [if_pos hj2, if_pos (by omega)]
        · rw [if_neg hj2, if_neg (by omega)]
theorem fill_ok {a x n : Int} {V : ASt} (hO : isO S0 a 100 = true) (hL : aLn S0 a = n) (h0 : 0 ≤ n) (hn2 : n ≤ 5000) : f_Arrays_fill S0 V a x = some (0, arow V a (fun j => if 0 ≤ j ∧ j < n then x else V a j)) := by
  unfold f_Arrays_fill
  rw [gd_t hO, hL, fill_loop hO hL hn2 _ _ _ (by omega) h0 (by rw [FU_v]; omega)]
