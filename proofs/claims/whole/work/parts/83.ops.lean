/-! what both sides reckon with two numbers -/
theorem cmp_le (x y : Int) : (cmp64 x y ≤ 0) ↔ x ≤ y := by
  unfold cmp64
  by_cases h : y < x
  · rw [if_pos h]; omega
  · rw [if_neg h]
    by_cases h2 : x = y
    · rw [if_pos h2]; omega
    · rw [if_neg h2]; omega
theorem cmp_ge (x y : Int) : (0 ≤ cmp64 x y) ↔ y ≤ x := by
  unfold cmp64
  by_cases h : y < x
  · rw [if_pos h]; omega
  · rw [if_neg h]
    by_cases h2 : x = y
    · rw [if_pos h2]; omega
    · rw [if_neg h2]; omega
theorem cmp_lt (x y : Int) : (cmp64 x y < 0) ↔ x < y := by have := cmp_ge x y; omega
theorem cmp_gt (x y : Int) : (0 < cmp64 x y) ↔ y < x := by have := cmp_le x y; omega
theorem mulbig {a b : Int} (ha : bigI a) (hb : bigI b) : (a * b).natAbs ≤ 1000000000000 := by
  rw [Int.natAbs_mul]
  have h1 : a.natAbs ≤ 1000000 := by omega
  have h2 : b.natAbs ≤ 1000000 := by omega
  exact Nat.mul_le_mul h1 h2
theorem M_bounded (V : ASt) (x : Int) : f_M_bounded S0 V x = some (clp x, V) := by
  unfold f_M_bounded clp
  by_cases c : 1000000 < x
  · rw [if_pos c, if_neg (show ¬ (cmp64 x 1000000 ≤ 0) from fun z => by rw [cmp_le] at z; omega)]
  · rw [if_neg c, if_pos (show cmp64 x 1000000 ≤ 0 from (cmp_le x 1000000).mpr (by omega))]
    by_cases d : x < -1000000
    · rw [if_pos d, if_neg (show ¬ (0 ≤ cmp64 x (-1000000)) from fun z => by rw [cmp_ge] at z; omega)]
    · rw [if_neg d, if_pos (show 0 ≤ cmp64 x (-1000000) from (cmp_ge x (-1000000)).mpr (by omega))]
theorem M_over {a b : Int} (V : ASt) (ha : bigI a) (hb : bigI b) : f_M_over S0 V a b = some (ovr a b, V) := by
  unfold f_M_over ovr b_M_over_J32 b_M_over_J43
  by_cases z : b = 0
  · rw [if_pos z, if_pos ((cmp_0 b 0).mpr z)]
  obtain ⟨h1, h2, h3, h4, h5⟩ := td_b (a := a) z
  rw [if_neg z, if_neg (fun y => z ((cmp_0 b 0).mp y)), gd_t (nz_t z), gd_t (nz_t z), w64_id (x := Int.tdiv a b) (by omega) (by omega)]
  by_cases c : Int.tmod a b = 0
  · rw [if_pos c, if_pos ((cmp_0 _ 0).mpr c)]
  rw [if_neg c, if_neg (fun y => c ((cmp_0 _ 0).mp y)), w64_id (x := Int.tdiv a b - 1) (by omega) (by omega)]
  by_cases e : a < 0
  · rw [if_neg (show ¬ (0 ≤ cmp64 a 0) from fun y => by rw [cmp_ge] at y; omega)]
    by_cases f : b < 0
    · rw [if_neg (show ¬ (0 ≤ cmp64 b 0) from fun y => by rw [cmp_ge] at y; omega), if_pos rfl, if_pos ⟨fun _ => f, fun _ => e⟩]
    · rw [if_pos (show 0 ≤ cmp64 b 0 from (cmp_ge b 0).mpr (by omega)), if_neg (by decide), if_neg (fun y => f (y.mp e))]
  · rw [if_pos (show 0 ≤ cmp64 a 0 from (cmp_ge a 0).mpr (by omega))]
    by_cases f : b < 0
    · rw [if_neg (show ¬ (0 ≤ cmp64 b 0) from fun y => by rw [cmp_ge] at y; omega), if_neg (by decide), if_neg (fun y => e (y.mpr f))]
    · rw [if_pos (show 0 ≤ cmp64 b 0 from (cmp_ge b 0).mpr (by omega)), if_pos rfl, if_pos ⟨fun y => absurd y e, fun y => absurd y f⟩]
theorem M_made {s a b : Int} (V : ASt) (hs : 10 ≤ s ∧ s ≤ 21) (ha : bigI a) (hb : bigI b) (h2 : (s = 20 ∨ s = 21) → bl1 a ∧ bl1 b) : f_M_made S0 V s a b = some (opv s a b, V) := by
  have hm := mulbig ha hb
  unfold f_M_made opv
  by_cases c0 : s = 10
  · rw [if_pos c0, if_pos c0, w64_id (by omega) (by omega), M_bounded, bnd_e]
  rw [if_neg c0, if_neg c0]
  by_cases c1 : s = 11
  · rw [if_pos c1, if_pos c1, w64_id (by omega) (by omega), M_bounded, bnd_e]
  rw [if_neg c1, if_neg c1]
  by_cases c2 : s = 12
  · rw [if_pos c2, if_pos c2, w64_id (by omega) (by omega), M_bounded, bnd_e]
  rw [if_neg c2, if_neg c2]
  by_cases c3 : s = 13
  · rw [if_pos c3, if_pos c3, M_over V ha hb, bnd_e]
  rw [if_neg c3, if_neg c3]
  by_cases c4 : s = 14
  · rw [if_pos c4, if_pos c4]
    by_cases z : b = 0
    · rw [if_pos z, if_pos ((cmp_0 b 0).mpr z)]
    · have ho := ovr_b (b := b) ha
      have hm2 := mulbig hb ho.1
      have := ho.2 z
      rw [if_neg z, if_neg (fun y => z ((cmp_0 b 0).mp y)), M_over V ha hb, bnd_e, w64_id (x := b * ovr a b) (by omega) (by omega), w64_id (by omega) (by omega)]
  rw [if_neg c4, if_neg c4]
  by_cases c5 : s = 15
  · rw [if_pos c5, if_pos c5]
    by_cases z : a < b
    · rw [if_pos z, if_neg (show ¬ (0 ≤ cmp64 a b) from fun y => by rw [cmp_ge] at y; omega)]
    · rw [if_neg z, if_pos ((cmp_ge a b).mpr (by omega))]
  rw [if_neg c5, if_neg c5]
  by_cases c6 : s = 16
  · rw [if_pos c6, if_pos c6]
    by_cases z : b < a
    · rw [if_pos z, if_neg (show ¬ (cmp64 a b ≤ 0) from fun y => by rw [cmp_le] at y; omega)]
    · rw [if_neg z, if_pos ((cmp_le a b).mpr (by omega))]
  rw [if_neg c6, if_neg c6]
  by_cases c7 : s = 17
  · rw [if_pos c7, if_pos c7]
    by_cases z : a < b
    · rw [if_pos z, if_neg (show ¬ (0 ≤ cmp64 a b) from fun y => by rw [cmp_ge] at y; omega)]
    · rw [if_neg z, if_pos ((cmp_ge a b).mpr (by omega))]
  rw [if_neg c7, if_neg c7]
  by_cases c8 : s = 18
  · rw [if_pos c8, if_pos c8]
    by_cases z : b < a
    · rw [if_pos z, if_neg (show ¬ (cmp64 a b ≤ 0) from fun y => by rw [cmp_le] at y; omega)]
    · rw [if_neg z, if_pos ((cmp_le a b).mpr (by omega))]
  rw [if_neg c8, if_neg c8]
  by_cases c9 : s = 19
  · rw [if_pos c9, if_pos c9]
    by_cases z : a = b
    · rw [if_pos z, if_pos ((cmp_0 a b).mpr z)]
    · rw [if_neg z, if_neg (fun y => z ((cmp_0 a b).mp y))]
  rw [if_neg c9, if_neg c9]
  by_cases c10 : s = 20
  · rw [if_pos c10, if_pos c10, w64_id (by omega) (by omega)]
  · rw [if_neg c10, if_neg c10, w64_id (by omega) (by omega)]
    by_cases z : 0 < a + b
    · rw [if_pos z, if_neg (show ¬ (cmp64 (a + b) 0 ≤ 0) from fun y => by rw [cmp_le] at y; omega)]
    · rw [if_neg z, if_pos ((cmp_le (a + b) 0).mpr (by omega))]
-- ---- the class
theorem C_209 (V : ASt) (x : Int) : b_Tests_combine_J209 S0 V x = some (clp x, V) := by
  unfold b_Tests_combine_J209 f_Math_min_JJ f_Math_max_JJ clp
  by_cases c : 1000000 < x
  · rw [if_pos c, if_neg (show ¬ (0 < cmp64 1000000 x) from fun z => by rw [cmp_gt] at z; omega), bnd_e, if_pos ((cmp_lt (-1000000) 1000000).mpr (by decide)), bnd_e, w32_id (by decide) (by decide)]
  · rw [if_neg c]
    by_cases d : x < -1000000
    · rw [if_pos d, if_pos ((cmp_gt 1000000 x).mpr (by omega)), bnd_e, if_neg (show ¬ (cmp64 (-1000000) x < 0) from fun z => by rw [cmp_lt] at z; omega), bnd_e, w32_id (by decide) (by decide)]
    · rw [if_neg d]
      by_cases e : x = 1000000
      · rw [if_neg (show ¬ (0 < cmp64 1000000 x) from fun z => by rw [cmp_gt] at z; omega), bnd_e, if_pos ((cmp_lt (-1000000) 1000000).mpr (by decide)), bnd_e, w32_id (by decide) (by decide), e]
      · rw [if_pos ((cmp_gt 1000000 x).mpr (by omega)), bnd_e]
        by_cases f : x = -1000000
        · rw [if_neg (show ¬ (cmp64 (-1000000) x < 0) from fun z => by rw [cmp_lt] at z; omega), bnd_e, w32_id (by decide) (by decide), f]
        · rw [if_pos ((cmp_lt (-1000000) x).mpr (by omega)), bnd_e, w32_id (by omega) (by omega)]
theorem clp_i {x : Int} (h : bigI x) : clp x = x := by
  unfold clp
  rw [if_neg (by omega), if_neg (by omega)]
theorem xor_s {a b : Int} (ha : bigI a) (hb : bigI b) : (0 ≤ cmp64 (xor64 a b) 0) ↔ (a < 0 ↔ b < 0) := by
  have := xor64_s (x := a) (y := b) ⟨by omega, by omega⟩ ⟨by omega, by omega⟩
  rw [cmp_ge]
  constructor
  · intro h
    exact Classical.byContradiction (fun z => by have := this.mpr z; omega)
  · intro h
    by_cases z : xor64 a b < 0
    · exact absurd h (this.mp z)
    · omega
theorem C_fdiv {a b : Int} (V : ASt) (ha : bigI a) (hb : bigI b) (hz : b ≠ 0) : f_Math_floorDiv S0 V a b = some (ovr a b, V) := by
  obtain ⟨h1, h2, h3, h4, h5⟩ := td_b (a := a) hz
  unfold f_Math_floorDiv ovr
  rw [gd_t (nz_t hz), if_neg hz, w64_id (x := Int.tdiv a b) (by omega) (by omega), w64_id (x := Int.tdiv a b * b) (by omega) (by omega), w64_id (x := Int.tdiv a b - 1) (by omega) (by omega)]
  by_cases c : Int.tmod a b = 0
  · rw [if_pos c]
    by_cases d : 0 ≤ cmp64 (xor64 a b) 0
    · rw [if_pos d]
    · rw [if_neg d, if_pos ((cmp_0 _ _).mpr (by omega))]
  · rw [if_neg c]
    by_cases d : a < 0 ↔ b < 0
    · rw [if_pos d, if_pos ((xor_s ha hb).mpr d)]
    · rw [if_neg d, if_neg (fun z => d ((xor_s ha hb).mp z)), if_neg (fun z => c (by have := (cmp_0 _ _).mp z; omega))]
theorem C_fmod {a b : Int} (V : ASt) (ha : bigI a) (hb : bigI b) (hz : b ≠ 0) : f_Math_floorMod S0 V a b = some (a - b * ovr a b, V) := by
  obtain ⟨h1, h2, h3, h4, h5⟩ := td_b (a := a) hz
  have hm : b * Int.tdiv a b = Int.tdiv a b * b := Int.mul_comm _ _
  have hm1 : b * (Int.tdiv a b - 1) = b * Int.tdiv a b - b := by rw [Int.mul_sub, Int.mul_one]
  unfold f_Math_floorMod ovr
  rw [gd_t (nz_t hz), if_neg hz, w64_id (x := Int.tmod a b + b) (by omega) (by omega)]
  by_cases c : Int.tmod a b = 0
  · rw [if_pos c]
    have e : Int.tmod a b = a - b * Int.tdiv a b := by omega
    by_cases d : 0 ≤ cmp64 (xor64 a b) 0
    · rw [if_pos d, e]
    · rw [if_neg d, if_pos ((cmp_0 _ _).mpr c), e]
  · rw [if_neg c]
    by_cases d : a < 0 ↔ b < 0
    · rw [if_pos d, if_pos ((xor_s ha hb).mpr d), show Int.tmod a b = a - b * Int.tdiv a b by omega]
    · rw [if_neg d, if_neg (fun z => d ((xor_s ha hb).mp z)), if_neg (fun z => c ((cmp_0 _ _).mp z)), hm1, show Int.tmod a b + b = a - (b * Int.tdiv a b - b) by omega]
theorem and_01 : ∀ a b : Nat, a < 2 → b < 2 → and64 (a : Int) (b : Int) = (a : Int) * (b : Int) ∧ or64 (a : Int) (b : Int) = (if 0 < (a : Int) + (b : Int) then 1 else 0) := by
  intro a b ha hb
  have h1 : a = 0 ∨ a = 1 := by omega
  have h2 : b = 0 ∨ b = 1 := by omega
  rcases h1 with e | e <;> rcases h2 with f | f <;> subst e <;> subst f <;> decide +kernel
theorem C_combine {s a b : Int} (V : ASt) (hs : 10 ≤ s ∧ s ≤ 21) (ha : bigI a) (hb : bigI b) (h2 : (s = 20 ∨ s = 21) → bl1 a ∧ bl1 b) : f_Tests_combine S0 V (8 - s) a b = some (opv s a b, V) := by
  have hm := mulbig ha hb
  have b1 : clp 1 = 1 := by decide
  have b0 : clp 0 = 0 := by decide
  unfold f_Tests_combine opv
  by_cases c10 : s = 20
  · obtain ⟨xa, xb⟩ := h2 (Or.inl c10)
    have := and_01 a.toNat b.toNat (by omega) (by omega)
    rw [show ((a.toNat : Nat) : Int) = a by omega, show ((b.toNat : Nat) : Int) = b by omega] at this
    rw [if_pos (show 8 - s = -12 by omega), if_neg (show ¬ (s = 10) by omega), if_neg (show ¬ (s = 11) by omega), if_neg (show ¬ (s = 12) by omega), if_neg (show ¬ (s = 13) by omega), if_neg (show ¬ (s = 14) by omega), if_neg (show ¬ (s = 15) by omega), if_neg (show ¬ (s = 16) by omega), if_neg (show ¬ (s = 17) by omega), if_neg (show ¬ (s = 18) by omega), if_neg (show ¬ (s = 19) by omega), if_pos c10, this.1, C_209]
    have hx : bl1 (a * b) := by rcases xa with e | e <;> rcases xb with f | f <;> subst e <;> subst f <;> decide
    rw [clp_i ⟨by omega, by omega⟩]
  rw [if_neg (show ¬ (8 - s = -12) by omega)]
  by_cases c9 : s = 19
  · rw [if_pos (show 8 - s = -11 by omega), if_neg (show ¬ (s = 10) by omega), if_neg (show ¬ (s = 11) by omega), if_neg (show ¬ (s = 12) by omega), if_neg (show ¬ (s = 13) by omega), if_neg (show ¬ (s = 14) by omega), if_neg (show ¬ (s = 15) by omega), if_neg (show ¬ (s = 16) by omega), if_neg (show ¬ (s = 17) by omega), if_neg (show ¬ (s = 18) by omega), if_pos c9, C_209, C_209, b1, b0]
    by_cases z : a = b
    · rw [if_pos z, if_pos ((cmp_0 a b).mpr z)]
    · rw [if_neg z, if_neg (fun y => z ((cmp_0 a b).mp y))]
  rw [if_neg (show ¬ (8 - s = -11) by omega)]
  by_cases c8 : s = 18
  · rw [if_pos (show 8 - s = -10 by omega), if_neg (show ¬ (s = 10) by omega), if_neg (show ¬ (s = 11) by omega), if_neg (show ¬ (s = 12) by omega), if_neg (show ¬ (s = 13) by omega), if_neg (show ¬ (s = 14) by omega), if_neg (show ¬ (s = 15) by omega), if_neg (show ¬ (s = 16) by omega), if_neg (show ¬ (s = 17) by omega), if_pos c8, C_209, C_209, b1, b0]
    by_cases z : b < a
    · rw [if_pos z, if_neg (show ¬ (cmp64 a b ≤ 0) from fun y => by rw [cmp_le] at y; omega)]
    · rw [if_neg z, if_pos ((cmp_le a b).mpr (by omega))]
  rw [if_neg (show ¬ (8 - s = -10) by omega)]
  by_cases c7 : s = 17
  · rw [if_pos (show 8 - s = -9 by omega), if_neg (show ¬ (s = 10) by omega), if_neg (show ¬ (s = 11) by omega), if_neg (show ¬ (s = 12) by omega), if_neg (show ¬ (s = 13) by omega), if_neg (show ¬ (s = 14) by omega), if_neg (show ¬ (s = 15) by omega), if_neg (show ¬ (s = 16) by omega), if_pos c7, C_209, C_209, b1, b0]
    by_cases z : a < b
    · rw [if_pos z, if_neg (show ¬ (0 ≤ cmp64 a b) from fun y => by rw [cmp_ge] at y; omega)]
    · rw [if_neg z, if_pos ((cmp_ge a b).mpr (by omega))]
  rw [if_neg (show ¬ (8 - s = -9) by omega)]
  by_cases c6 : s = 16
  · rw [if_pos (show 8 - s = -8 by omega), if_neg (show ¬ (s = 10) by omega), if_neg (show ¬ (s = 11) by omega), if_neg (show ¬ (s = 12) by omega), if_neg (show ¬ (s = 13) by omega), if_neg (show ¬ (s = 14) by omega), if_neg (show ¬ (s = 15) by omega), if_pos c6]
    unfold f_Math_max_JJ
    by_cases z : b < a
    · rw [if_pos z, if_neg (show ¬ (cmp64 a b < 0) from fun y => by rw [cmp_lt] at y; omega), bnd_e, C_209, clp_i ha]
    · rw [if_neg z]
      by_cases y : a < b
      · rw [if_pos ((cmp_lt a b).mpr y), bnd_e, C_209, clp_i hb]
      · rw [if_neg (show ¬ (cmp64 a b < 0) from fun q => by rw [cmp_lt] at q; omega), bnd_e, C_209, clp_i ha, show a = b by omega]
  rw [if_neg (show ¬ (8 - s = -8) by omega)]
  by_cases c5 : s = 15
  · rw [if_pos (show 8 - s = -7 by omega), if_neg (show ¬ (s = 10) by omega), if_neg (show ¬ (s = 11) by omega), if_neg (show ¬ (s = 12) by omega), if_neg (show ¬ (s = 13) by omega), if_neg (show ¬ (s = 14) by omega), if_pos c5]
    unfold f_Math_min_JJ
    by_cases z : a < b
    · rw [if_pos z, if_neg (show ¬ (0 < cmp64 a b) from fun y => by rw [cmp_gt] at y; omega), bnd_e, C_209, clp_i ha]
    · rw [if_neg z]
      by_cases y : b < a
      · rw [if_pos ((cmp_gt a b).mpr y), bnd_e, C_209, clp_i hb]
      · rw [if_neg (show ¬ (0 < cmp64 a b) from fun q => by rw [cmp_gt] at q; omega), bnd_e, C_209, clp_i ha, show a = b by omega]
  rw [if_neg (show ¬ (8 - s = -7) by omega)]
  by_cases c4 : s = 14
  · rw [if_pos (show 8 - s = -6 by omega), if_neg (show ¬ (s = 10) by omega), if_neg (show ¬ (s = 11) by omega), if_neg (show ¬ (s = 12) by omega), if_neg (show ¬ (s = 13) by omega), if_pos c4]
    by_cases z : b = 0
    · rw [if_pos z, if_pos ((cmp_0 b 0).mpr z), C_209, b0]
    · have ho := (ovr_b (b := b) ha).2 z
      rw [if_neg z, if_neg (fun y => z ((cmp_0 b 0).mp y)), C_fmod V ha hb z, bnd_e, C_209, clp_i ⟨by omega, by omega⟩]
  rw [if_neg (show ¬ (8 - s = -6) by omega)]
  by_cases c3 : s = 13
  · rw [if_pos (show 8 - s = -5 by omega), if_neg (show ¬ (s = 10) by omega), if_neg (show ¬ (s = 11) by omega), if_neg (show ¬ (s = 12) by omega), if_pos c3]
    by_cases z : b = 0
    · have e0 : ovr a b = 0 := by unfold ovr; rw [if_pos z]
      rw [if_pos ((cmp_0 b 0).mpr z), C_209, b0, e0]
    · rw [if_neg (fun y => z ((cmp_0 b 0).mp y)), C_fdiv V ha hb z, bnd_e, C_209, clp_i (ovr_b ha).1]
  rw [if_neg (show ¬ (8 - s = -5) by omega)]
  by_cases c2 : s = 12
  · rw [if_pos (show 8 - s = -4 by omega), if_neg (show ¬ (s = 10) by omega), if_neg (show ¬ (s = 11) by omega), if_pos c2, w64_id (by omega) (by omega), C_209]
  rw [if_neg (show ¬ (8 - s = -4) by omega)]
  by_cases c1 : s = 11
  · rw [if_pos (show 8 - s = -3 by omega), if_neg (show ¬ (s = 10) by omega), if_pos c1, w64_id (by omega) (by omega), C_209]
  rw [if_neg (show ¬ (8 - s = -3) by omega)]
  by_cases c0 : s = 10
  · rw [if_pos (show 8 - s = -2 by omega), if_pos c0, w64_id (by omega) (by omega), C_209]
  have c21 : s = 21 := by omega
  obtain ⟨xa, xb⟩ := h2 (Or.inr c21)
  have := and_01 a.toNat b.toNat (by omega) (by omega)
  rw [show ((a.toNat : Nat) : Int) = a by omega, show ((b.toNat : Nat) : Int) = b by omega] at this
  rw [if_neg (show ¬ (8 - s = -2) by omega), if_neg c0, if_neg c1, if_neg c2, if_neg c3, if_neg c4, if_neg c5, if_neg c6, if_neg c7, if_neg c8, if_neg c9, if_neg c10, this.2, C_209]
  by_cases z : 0 < a + b
  · rw [if_pos z, b1]
  · rw [if_neg z, b0]
