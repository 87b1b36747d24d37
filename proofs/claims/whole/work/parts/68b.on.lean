/-! going on from an image -/
def plI (G : GM) (T : Int → Int) (p : Int) : Int := if (qE G (T (1 + 3 * p)) = 0 ∧ T (2 + 3 * p) ≤ 3 ∧ ((qN G (T (1 + 3 * p)) = 0 ∧ T (3 + 3 * p) = 0) ∨ (qN G (T (1 + 3 * p)) ≠ 0 ∧ 1 ≤ T (3 + 3 * p) ∧ T (3 + 3 * p) ≤ 3))) ∨ (qE G (T (1 + 3 * p)) ≠ 0 ∧ T (1 + 3 * p) = p ∧ T (2 + 3 * p) = 0 ∧ T (3 + 3 * p) = qN G (T (1 + 3 * p))) then 1 else 0
def rlF (G : GM) (T : Int → Int) : Nat → Int → List Int → Int
  | 0, _, _ => 1
  | n + 1, p, l => if T (1 + 3 * p) < qR G ∧ T (1 + 3 * p) ∉ l ∧ plI G T p = 1 then rlF G T n (p + 1) (T (1 + 3 * p) :: l) else 0
def pyI (T : Int → Int) (R : Int) : Int := if T (3 + 3 * R) ≤ 2 ∧ T (4 + 3 * R) ≤ 2 ∧ T (5 + 3 * R) ≤ 100 ∧ T (6 + 3 * R) ≤ 100 then 1 else 0
def okI (x : ST) : Int := if qF (xG x) ≠ 0 ∧ xN x 6 = 8 + 3 * qR (xG x) ∧ xT x 0 = qR (xG x) ∧ xT x (7 + 3 * qR (xG x)) = chkF (xT x) (7 + 3 * qR (xG x)).toNat 0 37 ∧ rlF (xG x) (xT x) (qR (xG x)).toNat 0 [] = 1 ∧ pyI (xT x) (qR (xG x)) = 1 then 1 else 0
-- ---- masks
def msk (M : Nat) (l : List Int) : Prop := M < 4096 ∧ ∀ r : Nat, r < 12 → (M / 2 ^ r % 2 = 1 ↔ (r : Int) ∈ l)
theorem tbM (M i : Nat) : (M / 2 ^ i % 2 = 1) ↔ M.testBit i = true := by rw [Nat.testBit_eq_decide_div_mod_eq, decide_eq_true_iff]
theorem msk_0 : msk 0 [] := ⟨by decide, fun r hr => ⟨fun h => by rw [Nat.zero_div] at h; omega, fun h => by cases h⟩⟩
theorem msk_s {M : Nat} {l : List Int} (h : msk M l) {r : Nat} (hr : r < 12) : msk (M ||| 2 ^ r) ((r : Int) :: l) := by
  refine ⟨Nat.or_lt_two_pow (n := 12) h.1 (Nat.pow_lt_pow_right (by decide) hr), fun i hi => ?_⟩
  rw [tbM, Nat.testBit_or, Nat.testBit_two_pow, Bool.or_eq_true, ← tbM, h.2 i hi, decide_eq_true_iff, List.mem_cons]
  constructor
  · rintro (a | a)
    · exact Or.inr a
    · exact Or.inl (by omega)
  · rintro (a | a)
    · exact Or.inr (by omega)
    · exact Or.inl a
theorem mk_t {M : Nat} {l : List Int} (h : msk M l) {r : Int} (h0 : 0 ≤ r) (h1 : r < 12) : (and32 (shr32 (M : Int) r) 1 = 1 ∧ r ∈ l) ∨ (and32 (shr32 (M : Int) r) 1 = 0 ∧ r ∉ l) := by
  have hM := h.1
  obtain ⟨k, ek⟩ : ∃ k : Nat, r = (k : Int) := ⟨r.toNat, by omega⟩
  subst ek
  have hk := h.2 k (by omega)
  rw [shr_n (by omega) (by omega), and32_1, Nat.shiftRight_eq_div_pow]
  by_cases z : M / 2 ^ k % 2 = 1
  · exact Or.inl ⟨by omega, hk.mp z⟩
  · exact Or.inr ⟨by omega, fun y => z (hk.mpr y)⟩
theorem mk_s {M : Nat} {l : List Int} (h : msk M l) {r : Int} (h0 : 0 ≤ r) (h1 : r < 12) : or32 (M : Int) (shl32 1 r) = ((M ||| 2 ^ r.toNat : Nat) : Int) ∧ msk (M ||| 2 ^ r.toNat) (r :: l) := by
  have hM := h.1
  obtain ⟨k, ek⟩ : ∃ k : Nat, r = (k : Int) := ⟨r.toNat, by omega⟩
  subst ek
  have hk : k < 12 := by omega
  have hp : 2 ^ k < 4096 := Nat.pow_lt_pow_right (a := 2) (n := 12) (by decide) hk
  have e1 : shl32 1 (k : Int) = ((2 ^ k : Nat) : Int) := by
    have := shl_n (n := 1) (s := k) (by omega) (by omega)
    rw [Nat.one_mul] at this
    exact this
  rw [show ((k : Int)).toNat = k by omega]
  exact ⟨by rw [e1, or_n (by omega) (by omega)], msk_s h hk⟩
theorem qN_k {G : GM} (hG : GOK G) {r : Int} (h0 : 0 ≤ r) (h1 : r < qR G) : (qN G r = 0 ↔ (2 ≤ qK G r ∨ qW G r = 2)) ∧ 0 ≤ qN G r ∧ qN G r ≤ 3 ∧ (hasN G r ↔ qN G r ≠ 0) := by
  obtain ⟨-, -, -, -, -, -, h7, -⟩ := hG
  have := h7 r h0 h1
  unfold hasN
  omega
-- ---- the reference
theorem M_isRuleAt {G : GM} {b p : Int} {M : Nat} {l : List Int} {T : Int → Int} {V : ASt} (hG : GOK G) (g1 : rG G b V) (hT : ∀ i, 0 ≤ i → i < 8 + 3 * qR G → V 143 i = T i ∧ 0 ≤ T i ∧ T i ≤ 255) (p0 : 0 ≤ p) (p1 : p < qR G) (hm : msk M l) :
    f_M_isRuleAt S0 V 142 p (1 + 3 * p) (M : Int) = some (if T (1 + 3 * p) < qR G ∧ T (1 + 3 * p) ∉ l ∧ plI G T p = 1 then 1 else 0, V) := by
  have hR := hG.2.2.1
  have t1 := hT (1 + 3 * p) (by omega) (by omega)
  have t2 := hT (2 + 3 * p) (by omega) (by omega)
  have t3 := hT (3 + 3 * p) (by omega) (by omega)
  unfold f_M_isRuleAt
  rw [gd_t O_142, F_142_0, A_143, gd_in (by omega) (by omega), t1.1, M_rulesAll g1, bnd_e]
  by_cases c1 : qR G ≤ T (1 + 3 * p)
  · rw [if_pos c1, if_neg (fun z => by have := z.1; omega)]
  rw [if_neg c1]
  rcases mk_t hm t1.2.1 (show T (1 + 3 * p) < 12 by omega) with ⟨k1, k2⟩ | ⟨k1, k2⟩
  · rw [if_pos k1, if_neg (fun z => z.2.1 k2)]
  rw [if_neg (show ¬ (and32 (shr32 (M : Int) (T (1 + 3 * p))) 1 = 1) by omega), w32_id (x := 1 + 3 * p + 1) (by omega) (by omega), show 1 + 3 * p + 1 = 2 + 3 * p by omega, A_143, gd_in (by omega) (by omega), t2.1]
  obtain ⟨e0, e1, e2, -⟩ := qN_k hG t1.2.1 (show T (1 + 3 * p) < qR G by omega)
  have hrr := g1.2.2.2.2.2.2.2 (T (1 + 3 * p)) t1.2.1 (by omega)
  have hE := (hG.2.2.2.2.2.2.1 (T (1 + 3 * p)) t1.2.1 (by omega)).1
  have hb := g1.2.1
  have eq2 : (if T (1 + 3 * p) < qR G ∧ T (1 + 3 * p) ∉ l ∧ plI G T p = 1 then (1 : Int) else 0) = plI G T p := by
    by_cases z : plI G T p = 1
    · rw [if_pos ⟨by omega, k2, z⟩, z]
    · rw [if_neg (fun y => z y.2.2)]
      unfold plI at *
      by_cases y : (qE G (T (1 + 3 * p)) = 0 ∧ T (2 + 3 * p) ≤ 3 ∧ ((qN G (T (1 + 3 * p)) = 0 ∧ T (3 + 3 * p) = 0) ∨ (qN G (T (1 + 3 * p)) ≠ 0 ∧ 1 ≤ T (3 + 3 * p) ∧ T (3 + 3 * p) ≤ 3))) ∨ (qE G (T (1 + 3 * p)) ≠ 0 ∧ T (1 + 3 * p) = p ∧ T (2 + 3 * p) = 0 ∧ T (3 + 3 * p) = qN G (T (1 + 3 * p)))
      · rw [if_pos y] at z; exact absurd rfl z
      · rw [if_neg y]
  rw [eq2]
  unfold plI
  by_cases c2 : T (2 + 3 * p) ≤ 3
  case neg => rw [if_neg c2, if_neg (by omega)]
  rw [if_pos c2]
  have told := M_told g1 t1.2.1 (show T (1 + 3 * p) < 12 by omega)
  have e12 : w32 (1 + 3 * p + 2) = 3 + 3 * p := by rw [w32_id (by omega) (by omega)]; omega
  have e11 : w32 (1 + 3 * p + 1) = 2 + 3 * p := by rw [w32_id (by omega) (by omega)]; omega
  -- whether it is for ever
  have h115 : ((qN G (T (1 + 3 * p)) = 0 ∧ T (3 + 3 * p) = 0) ∨ (qN G (T (1 + 3 * p)) ≠ 0 ∧ 1 ≤ T (3 + 3 * p) ∧ T (3 + 3 * p) ≤ 3)) → b_M_isRuleAt_J115 S0 V 142 p (1 + 3 * p) (T (1 + 3 * p)) = some (if (qE G (T (1 + 3 * p)) = 0 ∧ T (2 + 3 * p) ≤ 3 ∧ ((qN G (T (1 + 3 * p)) = 0 ∧ T (3 + 3 * p) = 0) ∨ (qN G (T (1 + 3 * p)) ≠ 0 ∧ 1 ≤ T (3 + 3 * p) ∧ T (3 + 3 * p) ≤ 3))) ∨ (qE G (T (1 + 3 * p)) ≠ 0 ∧ T (1 + 3 * p) = p ∧ T (2 + 3 * p) = 0 ∧ T (3 + 3 * p) = qN G (T (1 + 3 * p))) then 1 else 0, V) := by
    intro hst
    unfold b_M_isRuleAt_J115
    rw [told, bnd_e, F_142_24, A_155, gd_in (by omega) (by omega), hrr.2.2.2.2]
    by_cases d : qE G (T (1 + 3 * p)) = 0
    · rw [if_pos d, if_pos (Or.inl ⟨d, c2, hst⟩)]
    rw [if_neg d]
    by_cases d2 : T (1 + 3 * p) = p
    case neg => rw [if_neg d2, if_neg (fun z => z.elim (fun y => d y.1) (fun y => d2 y.2.1))]
    rw [if_pos d2, e11, F_142_0, A_143, gd_in (by omega) (by omega), t2.1]
    by_cases d3 : T (2 + 3 * p) = 0
    case neg => rw [if_neg d3, if_neg (fun z => z.elim (fun y => d y.1) (fun y => d3 y.2.2.1))]
    rw [if_pos d3, e12, A_143, gd_in (by omega) (by omega), told, bnd_e, F_142_23, A_154, gd_in (by omega) (by omega), hrr.2.2.2.1, t3.1]
    by_cases d4 : T (3 + 3 * p) = qN G (T (1 + 3 * p))
    · rw [if_pos d4, if_pos (Or.inr ⟨d, d2, d3, d4⟩)]
    · rw [if_neg d4, if_neg (fun z => z.elim (fun y => d y.1) (fun y => d4 y.2.2.2))]
  have hno : ¬ ((qN G (T (1 + 3 * p)) = 0 ∧ T (3 + 3 * p) = 0) ∨ (qN G (T (1 + 3 * p)) ≠ 0 ∧ 1 ≤ T (3 + 3 * p) ∧ T (3 + 3 * p) ≤ 3)) → ¬ ((qE G (T (1 + 3 * p)) = 0 ∧ T (2 + 3 * p) ≤ 3 ∧ ((qN G (T (1 + 3 * p)) = 0 ∧ T (3 + 3 * p) = 0) ∨ (qN G (T (1 + 3 * p)) ≠ 0 ∧ 1 ≤ T (3 + 3 * p) ∧ T (3 + 3 * p) ≤ 3))) ∨ (qE G (T (1 + 3 * p)) ≠ 0 ∧ T (1 + 3 * p) = p ∧ T (2 + 3 * p) = 0 ∧ T (3 + 3 * p) = qN G (T (1 + 3 * p)))) := by omega
  have h76 : ∀ s0 : Int, (s0 = 0 ∨ s0 = 1) → (s0 = 0 ↔ qN G (T (1 + 3 * p)) = 0) → b_M_isRuleAt_J76 S0 V 142 p (1 + 3 * p) (T (1 + 3 * p)) s0 = some (if (qE G (T (1 + 3 * p)) = 0 ∧ T (2 + 3 * p) ≤ 3 ∧ ((qN G (T (1 + 3 * p)) = 0 ∧ T (3 + 3 * p) = 0) ∨ (qN G (T (1 + 3 * p)) ≠ 0 ∧ 1 ≤ T (3 + 3 * p) ∧ T (3 + 3 * p) ≤ 3))) ∨ (qE G (T (1 + 3 * p)) ≠ 0 ∧ T (1 + 3 * p) = p ∧ T (2 + 3 * p) = 0 ∧ T (3 + 3 * p) = qN G (T (1 + 3 * p))) then 1 else 0, V) := by
    intro s0 hs0 hs1
    unfold b_M_isRuleAt_J76
    rw [e12, F_142_0, A_143]
    by_cases d : s0 = 0
    · rw [if_pos d, gd_in (by omega) (by omega), t3.1]
      by_cases d2 : T (3 + 3 * p) = 0
      · rw [if_pos d2]; exact h115 (Or.inl ⟨hs1.mp d, d2⟩)
      · rw [if_neg d2, if_neg (hno (by omega))]
    · rw [if_neg d, gd_in (by omega) (by omega), t3.1, M_is, bnd_e]
      by_cases d2 : 1 ≤ T (3 + 3 * p) ∧ T (3 + 3 * p) ≤ 3
      · rw [if_pos d2, if_neg (by decide)]; exact h115 (Or.inr ⟨fun z => d (hs1.mpr z), d2⟩)
      · rw [if_neg d2, if_pos rfl, if_neg (hno (by omega))]
  rw [told, bnd_e, F_142_20, A_151, gd_in (by omega) (by omega), hrr.1]
  by_cases d : 2 ≤ qK G (T (1 + 3 * p))
  · rw [if_pos d]; exact h76 0 (Or.inl rfl) ⟨fun _ => e0.mpr (Or.inl d), fun _ => rfl⟩
  rw [if_neg d, told, bnd_e, F_142_22, A_153, gd_in (by omega) (by omega), hrr.2.2.1]
  by_cases d2 : qW G (T (1 + 3 * p)) = 2
  · rw [if_pos d2]; exact h76 0 (Or.inl rfl) ⟨fun _ => e0.mpr (Or.inr d2), fun _ => rfl⟩
  · rw [if_neg d2]; exact h76 1 (Or.inr rfl) ⟨fun z => absurd z (by decide), fun z => absurd (e0.mp z) (fun y => y.elim d d2)⟩
theorem M_isWhole {x : ST} {V : ASt} {b : Int} (hG : GOK (xG x)) (g1 : rG (xG x) b V) (h6 : 0 ≤ xN x 6 ∧ xN x 6 ≤ 1800) (hT : ∀ i, 0 ≤ i → i < xN x 6 → V 143 i = xT x i ∧ 0 ≤ xT x i ∧ xT x i ≤ 255) : f_M_isWhole S0 V 142 (xN x 6) = some (okI x, V) := by
  have hR := hG.2.2.1
  unfold f_M_isWhole okI
  rw [gd_t O_142, M_rulesAll g1, bnd_e, M_hasFields hG g1, bnd_e, w32_id (x := 3 * qR (xG x)) (by omega) (by omega), w32_id (x := 1 + 3 * qR (xG x)) (by omega) (by omega), w32_id (x := 1 + 3 * qR (xG x) + 7) (by omega) (by omega)]
  by_cases c0 : qF (xG x) = 0
  · rw [if_pos c0, if_pos rfl, if_neg (fun z => z.1 c0)]
  rw [if_neg c0, if_neg (by decide)]
  by_cases c1 : xN x 6 = 1 + 3 * qR (xG x) + 7
  case neg => rw [if_neg c1, if_neg (fun z => c1 (by omega))]
  have t0 := hT 0 (by omega) (by omega)
  rw [if_pos c1, F_142_0, A_143, gd_in (by omega) (by omega), M_rulesAll g1, bnd_e, t0.1]
  by_cases c2 : xT x 0 = qR (xG x)
  case neg => rw [if_neg c2, if_neg (fun z => c2 z.2.2.1)]
  rw [if_pos c2]
  have hT' : ∀ i, 0 ≤ i → i < 8 + 3 * qR (xG x) → V 143 i = xT x i ∧ 0 ≤ xT x i ∧ xT x i ≤ 255 := fun i i0 i1 => hT i i0 (by omega)
  have h96 : ∀ (n : Nat) (p : Int) (M : Nat) (l : List Int), 0 ≤ p → p ≤ qR (xG x) → qR (xG x) - p < n → msk M l → b_M_isWhole_L96 S0 142 (1 + 3 * qR (xG x)) n V (M : Int) p = some (if rlF (xG x) (xT x) (qR (xG x) - p).toNat p l = 1 ∧ pyI (xT x) (qR (xG x)) = 1 then 1 else 0, V) := by
    intro n
    induction n with
    | zero => intro p M l h1 h2 h3; omega
    | succ n ih =>
      intro p M l p0 p1 hn hm
      rw [b_M_isWhole_L96, M_rulesAll g1, bnd_e]
      by_cases d : qR (xG x) ≤ p
      · have u3 := hT' (3 + 3 * qR (xG x)) (by omega) (by omega)
        have u4 := hT' (4 + 3 * qR (xG x)) (by omega) (by omega)
        have u5 := hT' (5 + 3 * qR (xG x)) (by omega) (by omega)
        have u6 := hT' (6 + 3 * qR (xG x)) (by omega) (by omega)
        have f3 : w32 (1 + 3 * qR (xG x) + 2) = 3 + 3 * qR (xG x) := by rw [w32_id (by omega) (by omega)]; omega
        have f4 : w32 (1 + 3 * qR (xG x) + 3) = 4 + 3 * qR (xG x) := by rw [w32_id (by omega) (by omega)]; omega
        have f5 : w32 (1 + 3 * qR (xG x) + 4) = 5 + 3 * qR (xG x) := by rw [w32_id (by omega) (by omega)]; omega
        have f6 : w32 (1 + 3 * qR (xG x) + 5) = 6 + 3 * qR (xG x) := by rw [w32_id (by omega) (by omega)]; omega
        rw [if_pos d, show (qR (xG x) - p).toNat = 0 by omega, rlF, f3, f4, f5, f6, F_142_0, A_143, gd_in (by omega) (by omega), u3.1]
        unfold pyI
        by_cases e : 2 < xT x (3 + 3 * qR (xG x))
        · rw [if_pos e, if_neg (show ¬ (xT x (3 + 3 * qR (xG x)) ≤ 2 ∧ xT x (4 + 3 * qR (xG x)) ≤ 2 ∧ xT x (5 + 3 * qR (xG x)) ≤ 100 ∧ xT x (6 + 3 * qR (xG x)) ≤ 100) by omega), if_neg (by decide)]
        rw [if_neg e, A_143, gd_in (by omega) (by omega), u4.1]
        by_cases e2 : 2 < xT x (4 + 3 * qR (xG x))
        · rw [if_pos e2, if_neg (show ¬ (xT x (3 + 3 * qR (xG x)) ≤ 2 ∧ xT x (4 + 3 * qR (xG x)) ≤ 2 ∧ xT x (5 + 3 * qR (xG x)) ≤ 100 ∧ xT x (6 + 3 * qR (xG x)) ≤ 100) by omega), if_neg (by decide)]
        rw [if_neg e2, A_143, gd_in (by omega) (by omega), u5.1]
        by_cases e3 : 100 < xT x (5 + 3 * qR (xG x))
        · rw [if_pos e3, if_neg (show ¬ (xT x (3 + 3 * qR (xG x)) ≤ 2 ∧ xT x (4 + 3 * qR (xG x)) ≤ 2 ∧ xT x (5 + 3 * qR (xG x)) ≤ 100 ∧ xT x (6 + 3 * qR (xG x)) ≤ 100) by omega), if_neg (by decide)]
        rw [if_neg e3, A_143, gd_in (by omega) (by omega), u6.1]
        by_cases e4 : 100 < xT x (6 + 3 * qR (xG x))
        · rw [if_pos e4, if_neg (show ¬ (xT x (3 + 3 * qR (xG x)) ≤ 2 ∧ xT x (4 + 3 * qR (xG x)) ≤ 2 ∧ xT x (5 + 3 * qR (xG x)) ≤ 100 ∧ xT x (6 + 3 * qR (xG x)) ≤ 100) by omega), if_neg (by decide)]
        rw [if_neg e4, if_pos (show (xT x (3 + 3 * qR (xG x)) ≤ 2 ∧ xT x (4 + 3 * qR (xG x)) ≤ 2 ∧ xT x (5 + 3 * qR (xG x)) ≤ 100 ∧ xT x (6 + 3 * qR (xG x)) ≤ 100) by omega), if_pos (by decide)]
      · have t1 := hT' (1 + 3 * p) (by omega) (by omega)
        rw [if_neg d, w32_id (x := 3 * p) (by omega) (by omega), w32_id (x := 1 + 3 * p) (by omega) (by omega), M_isRuleAt hG g1 hT' p0 (by omega) hm, bnd_e, show (qR (xG x) - p).toNat = (qR (xG x) - (p + 1)).toNat + 1 by omega, rlF]
        by_cases e : xT x (1 + 3 * p) < qR (xG x) ∧ xT x (1 + 3 * p) ∉ l ∧ plI (xG x) (xT x) p = 1
        · have hms := mk_s hm t1.2.1 (show xT x (1 + 3 * p) < 12 by omega)
          rw [if_pos e, if_pos e, if_neg (by decide), F_142_0, A_143, gd_in (by omega) (by omega), t1.1, hms.1, w32_id (x := p + 1) (by omega) (by omega)]
          exact ih (p + 1) _ _ (by omega) (by omega) (by omega) hms.2
        · rw [if_neg e, if_neg e, if_pos rfl, if_neg (fun z => absurd z.1 (by decide))]
  have h45 : ∀ (n : Nat) (i c : Int), 0 ≤ i → i ≤ 7 + 3 * qR (xG x) → 7 + 3 * qR (xG x) - i < n → 0 ≤ c → c < 223 → chkF (xT x) (7 + 3 * qR (xG x) - i).toNat i c = chkF (xT x) (7 + 3 * qR (xG x)).toNat 0 37 →
      b_M_isWhole_L45 S0 142 (xN x 6) (1 + 3 * qR (xG x)) n V c i = some (if xT x (7 + 3 * qR (xG x)) = chkF (xT x) (7 + 3 * qR (xG x)).toNat 0 37 ∧ rlF (xG x) (xT x) (qR (xG x)).toNat 0 [] = 1 ∧ pyI (xT x) (qR (xG x)) = 1 then 1 else 0, V) := by
    intro n
    induction n with
    | zero => intro i c h1 h2 h3; omega
    | succ n ih =>
      intro i c i0 i1 hn k0 k1 hc
      have en : w32 (xN x 6 - 1) = 7 + 3 * qR (xG x) := by rw [w32_id (by omega) (by omega)]; omega
      rw [b_M_isWhole_L45, en]
      by_cases d : 7 + 3 * qR (xG x) ≤ i
      · have tl := hT' (7 + 3 * qR (xG x)) (by omega) (by omega)
        rw [show (7 + 3 * qR (xG x) - i).toNat = 0 by omega, chkF] at hc
        rw [if_pos d, F_142_0, A_143, gd_in (by omega) (by omega), tl.1, hc]
        by_cases e : xT x (7 + 3 * qR (xG x)) = chkF (xT x) (7 + 3 * qR (xG x)).toNat 0 37
        · rw [if_pos e]
          have := h96 FU 0 0 [] (by omega) (by omega) (by rw [FU_v]; omega) msk_0
          rw [show qR (xG x) - 0 = qR (xG x) by omega] at this
          have e0 : ((0 : Nat) : Int) = 0 := rfl
          rw [e0] at this
          rw [this]
          by_cases f : rlF (xG x) (xT x) (qR (xG x)).toNat 0 [] = 1 ∧ pyI (xT x) (qR (xG x)) = 1
          · rw [if_pos f, if_pos ⟨e, f⟩]
          · rw [if_neg f, if_neg (fun z => f z.2)]
        · rw [if_neg e, if_neg (fun z => e z.1)]
      · have ti := hT' i i0 (by omega)
        rw [show (7 + 3 * qR (xG x) - i).toNat = (7 + 3 * qR (xG x) - (i + 1)).toNat + 1 by omega, chkF] at hc
        rw [if_neg d, F_142_0, A_143, gd_in (by omega) (by omega), ti.1, w32_id (x := 7 * c) (by omega) (by omega), w32_id (x := 7 * c + xT x i) (by omega) (by omega), tmod_e (by omega), w32_id (x := i + 1) (by omega) (by omega)]
        exact ih (i + 1) _ (by omega) (by omega) (by omega) (by omega) (by omega) hc
  rw [h45 FU 0 37 (by omega) (by omega) (by rw [FU_v]; omega) (by omega) (by omega) (by rw [show 7 + 3 * qR (xG x) - 0 = 7 + 3 * qR (xG x) by omega])]
  by_cases f : xT x (7 + 3 * qR (xG x)) = chkF (xT x) (7 + 3 * qR (xG x)).toNat 0 37 ∧ rlF (xG x) (xT x) (qR (xG x)).toNat 0 [] = 1 ∧ pyI (xT x) (qR (xG x)) = 1
  · rw [if_pos f, if_pos ⟨c0, by omega, c2, f⟩]
  · rw [if_neg f, if_neg (fun z => f z.2.2.2)]
-- ---- the class
theorem C_isImage {x : ST} {t : Int} {V : ASt} (hG : GOK (xG x)) (h : dIt x t V) (h6 : 0 ≤ xN x 6 ∧ xN x 6 ≤ 1800) (hT : ∀ i, 0 ≤ i → i < xN x 6 → 0 ≤ xT x i ∧ xT x i ≤ 255) : f_SG_tapeIsImage S0 V 0 = some (okI x, V) := by
  have hR := hG.2.2.1
  obtain ⟨h0, k1, k2, k3, k4, k5, k6, k7, k8, k9, k10, k11, k12, -⟩ := h
  have at' : ∀ k, 0 ≤ k → k < xN x 6 → f_Bytes_at S0 V 1 k = some (xT x k, V) := fun k a b => by rw [Bt_at k12 h6 k, if_pos ⟨a, b⟩]
  unfold f_SG_tapeIsImage okI
  rw [gd_t O_0, k1.1, gd_t (OG h0), k2.1.1, k2.1.2.2.1, F_0_0, gd_t O_1, k12.1, w32_id (x := 3 * qR (xG x)) (by omega) (by omega), w32_id (x := 8 + 3 * qR (xG x)) (by omega) (by omega)]
  by_cases c0 : qF (xG x) = 0
  · rw [if_pos c0, if_neg (fun z => z.1 c0)]
  rw [if_neg c0]
  by_cases c1 : xN x 6 = 8 + 3 * qR (xG x)
  case neg => rw [if_neg c1, if_neg (fun z => c1 z.2.1)]
  have en : w32 (8 + 3 * qR (xG x) - 1) = 7 + 3 * qR (xG x) := by rw [w32_id (by omega) (by omega)]; omega
  rw [if_pos c1, at' 0 (by omega) (by omega), bnd_e, k1.1, gd_t (OG h0), k2.1.2.2.1]
  by_cases c2 : xT x 0 = qR (xG x)
  case neg => rw [if_neg c2, if_neg (fun z => c2 z.2.2.1)]
  rw [if_pos c2, en, at' _ (by omega) (by omega), bnd_e, Bt_check (I := xT x) O_1 F_1_1 O_2 L_2 A_2 ⟨by omega, by omega, by omega⟩ (fun i i0 i1 => hT i i0 (by omega)) (fun i i0 i1 => k12.2 i i0 (by omega)), bnd_e]
  by_cases c3 : xT x (7 + 3 * qR (xG x)) = chkF (xT x) (7 + 3 * qR (xG x)).toNat 0 37
  case neg => rw [if_neg c3, if_neg (fun z => c3 z.2.2.2.1)]
  rw [if_pos c3]
  have hpl : ∀ p, 0 ≤ p → p < qR (xG x) → xT x (1 + 3 * p) < qR (xG x) → f_SG_tapeHasPlace S0 V 0 p (xT x (1 + 3 * p)) = some (plI (xG x) (xT x) p, V) := by
    intro p p0 p1 hr
    have t1 := hT (1 + 3 * p) (by omega) (by omega)
    have t2 := hT (2 + 3 * p) (by omega) (by omega)
    have t3 := hT (3 + 3 * p) (by omega) (by omega)
    obtain ⟨e0, e1, e2, -⟩ := qN_k hG t1.1 hr
    have hE := (hG.2.2.2.2.2.2.1 (xT x (1 + 3 * p)) t1.1 hr).1
    unfold f_SG_tapeHasPlace plI
    rw [gd_t O_0, F_0_0, gd_t O_1, w32_id (x := 3 * p) (by omega) (by omega), w32_id (x := 2 + 3 * p) (by omega) (by omega), w32_id (x := 3 + 3 * p) (by omega) (by omega), at' _ (by omega) (by omega), bnd_e, at' _ (by omega) (by omega), bnd_e, k1.1, gd_t (OG h0), G_stepOf hG h0 k2.1 t1.1 hr, bnd_e, k1.1, gd_t (OG h0), G_isEver hG h0 k2.1 t1.1 hr, bnd_e]
    generalize xT x (1 + 3 * p) = r at *
    generalize xT x (2 + 3 * p) = f at *
    generalize xT x (3 + 3 * p) = st at *
    generalize qE (xG x) r = ev at *
    generalize qN (xG x) r = nn' at *
    by_cases d : ev = 0
    · rw [if_pos d]
      by_cases d2 : 3 < f
      · rw [if_pos d2, if_neg (by omega)]
      rw [if_neg d2]
      by_cases d3 : nn' = 0
      · rw [if_pos d3]
        by_cases d4 : st = 0
        · rw [if_pos d4, if_pos (by omega)]
        · rw [if_neg d4, if_neg (by omega)]
      · rw [if_neg d3]
        by_cases d4 : st < 1
        · rw [if_pos d4, if_neg (by omega)]
        · rw [if_neg d4]
          by_cases d5 : 3 < st
          · rw [if_pos d5, if_neg (by omega)]
          · rw [if_neg d5, if_pos (by omega)]
    · rw [if_neg d]
      by_cases d2 : r = p
      · rw [if_pos d2]
        by_cases d3 : f = 0
        · rw [if_pos d3]
          by_cases d4 : st = nn'
          · rw [if_pos d4, if_pos (by omega)]
          · rw [if_neg d4, if_neg (by omega)]
        · rw [if_neg d3, if_neg (by omega)]
      · rw [if_neg d2, if_neg (by omega)]
  have hrl : ∀ (n : Nat) (p : Int) (M : Nat) (l : List Int), 0 ≤ p → p ≤ qR (xG x) → qR (xG x) - p < n → msk M l → b_SG_tapeHasRules_L4 S0 0 n V (M : Int) p = some (rlF (xG x) (xT x) (qR (xG x) - p).toNat p l, V) := by
    intro n
    induction n with
    | zero => intro p M l h1 h2 h3; omega
    | succ n ih =>
      intro p M l p0 p1 hn hm
      rw [b_SG_tapeHasRules_L4, k1.1, gd_t (OG h0), k2.1.2.2.1]
      by_cases d : qR (xG x) ≤ p
      · rw [if_pos d, show (qR (xG x) - p).toNat = 0 by omega, rlF]
      · have t1 := hT (1 + 3 * p) (by omega) (by omega)
        rw [if_neg d, F_0_0, gd_t O_1, w32_id (x := 3 * p) (by omega) (by omega), w32_id (x := 1 + 3 * p) (by omega) (by omega), at' _ (by omega) (by omega), bnd_e, k1.1, gd_t (OG h0), k2.1.2.2.1, show (qR (xG x) - p).toNat = (qR (xG x) - (p + 1)).toNat + 1 by omega, rlF]
        by_cases e : qR (xG x) ≤ xT x (1 + 3 * p)
        · rw [if_pos e, if_neg (fun z => by have := z.1; omega)]
        rw [if_neg e]
        rcases mk_t hm t1.1 (show xT x (1 + 3 * p) < 12 by omega) with ⟨q1, q2⟩ | ⟨q1, q2⟩
        · rw [if_neg (show ¬ (and32 (shr32 (M : Int) (xT x (1 + 3 * p))) 1 = 0) by omega), if_neg (fun z => z.2.1 q2)]
        · rw [if_pos q1, hpl p p0 (by omega) (by omega), bnd_e]
          by_cases f : plI (xG x) (xT x) p = 1
          · have hms := mk_s hm t1.1 (show xT x (1 + 3 * p) < 12 by omega)
            rw [if_neg (show ¬ (plI (xG x) (xT x) p = 0) by omega), if_pos ⟨by omega, q2, f⟩, hms.1, w32_id (x := p + 1) (by omega) (by omega)]
            exact ih (p + 1) _ _ (by omega) (by omega) (by omega) hms.2
          · have f0 : plI (xG x) (xT x) p = 0 := by
              unfold plI at *
              by_cases y : (qE (xG x) (xT x (1 + 3 * p)) = 0 ∧ xT x (2 + 3 * p) ≤ 3 ∧ ((qN (xG x) (xT x (1 + 3 * p)) = 0 ∧ xT x (3 + 3 * p) = 0) ∨ (qN (xG x) (xT x (1 + 3 * p)) ≠ 0 ∧ 1 ≤ xT x (3 + 3 * p) ∧ xT x (3 + 3 * p) ≤ 3))) ∨ (qE (xG x) (xT x (1 + 3 * p)) ≠ 0 ∧ xT x (1 + 3 * p) = p ∧ xT x (2 + 3 * p) = 0 ∧ xT x (3 + 3 * p) = qN (xG x) (xT x (1 + 3 * p)))
              · rw [if_pos y] at f; exact absurd rfl f
              · rw [if_neg y]
            rw [if_pos f0, if_neg (fun z => f z.2.2)]
  have hrl0 : f_SG_tapeHasRules S0 V 0 = some (rlF (xG x) (xT x) (qR (xG x)).toNat 0 [], V) := by
    unfold f_SG_tapeHasRules
    have := hrl FU 0 0 [] (by omega) (by omega) (by rw [FU_v]; omega) msk_0
    rw [show qR (xG x) - 0 = qR (xG x) by omega] at this
    rw [gd_t O_0]; exact this
  have hr01 : ∀ (n : Nat) (p : Int) (l : List Int), rlF (xG x) (xT x) n p l = 0 ∨ rlF (xG x) (xT x) n p l = 1 := by
    intro n
    induction n with
    | zero => intro p l; exact Or.inr rfl
    | succ n ih =>
      intro p l
      rw [rlF]
      by_cases z : xT x (1 + 3 * p) < qR (xG x) ∧ xT x (1 + 3 * p) ∉ l ∧ plI (xG x) (xT x) p = 1
      · rw [if_pos z]; exact ih _ _
      · rw [if_neg z]; exact Or.inl rfl
  have hpy : f_SG_tapeHasPlayers S0 V 0 = some (pyI (xT x) (qR (xG x)), V) := by
    unfold f_SG_tapeHasPlayers pyI
    have f4 : w32 (3 + 3 * qR (xG x) + 1) = 4 + 3 * qR (xG x) := by rw [w32_id (by omega) (by omega)]; omega
    have f5 : w32 (3 + 3 * qR (xG x) + 2) = 5 + 3 * qR (xG x) := by rw [w32_id (by omega) (by omega)]; omega
    have f6 : w32 (3 + 3 * qR (xG x) + 3) = 6 + 3 * qR (xG x) := by rw [w32_id (by omega) (by omega)]; omega
    rw [gd_t O_0, k1.1, gd_t (OG h0), F_0_0, gd_t O_1, k2.1.2.2.1, w32_id (x := 3 * qR (xG x)) (by omega) (by omega), w32_id (x := 3 + 3 * qR (xG x)) (by omega) (by omega), f4, f5, f6, at' _ (by omega) (by omega), bnd_e]
    by_cases e : 2 < xT x (3 + 3 * qR (xG x))
    · rw [if_pos e, if_neg (by omega)]
    rw [if_neg e, at' _ (by omega) (by omega), bnd_e]
    by_cases e2 : 2 < xT x (4 + 3 * qR (xG x))
    · rw [if_pos e2, if_neg (by omega)]
    rw [if_neg e2, at' _ (by omega) (by omega), bnd_e]
    by_cases e3 : 100 < xT x (5 + 3 * qR (xG x))
    · rw [if_pos e3, if_neg (by omega)]
    rw [if_neg e3, at' _ (by omega) (by omega), bnd_e]
    by_cases e4 : 100 < xT x (6 + 3 * qR (xG x))
    · rw [if_pos e4, if_neg (by omega)]
    rw [if_neg e4, if_pos (by omega)]
  rw [hrl0, bnd_e]
  by_cases f : rlF (xG x) (xT x) (qR (xG x)).toNat 0 [] = 1
  case neg =>
    have f0 := hr01 (qR (xG x)).toNat 0 []
    rw [if_pos (show rlF (xG x) (xT x) (qR (xG x)).toNat 0 [] = 0 by omega), if_neg (fun z => f z.2.2.2.2.1)]
  rw [f, if_neg (by decide), hpy, bnd_e]
  by_cases g : pyI (xT x) (qR (xG x)) = 1
  · rw [g, if_neg (by decide), if_pos ⟨c0, c1, c2, c3, rfl, rfl⟩]
  · have g0 : pyI (xT x) (qR (xG x)) = 0 := by
      unfold pyI at *
      by_cases y : xT x (3 + 3 * qR (xG x)) ≤ 2 ∧ xT x (4 + 3 * qR (xG x)) ≤ 2 ∧ xT x (5 + 3 * qR (xG x)) ≤ 100 ∧ xT x (6 + 3 * qR (xG x)) ≤ 100
      · rw [if_pos y] at g; exact absurd rfl g
      · rw [if_neg y]
    rw [if_pos g0, if_neg (fun z => g z.2.2.2.2.2)]
