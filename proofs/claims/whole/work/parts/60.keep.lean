/-! slates are kept: the reference -/
def kR (V W : ASt) (a c u i : Int) : Prop := ∀ j, W a j = if 12 * u ≤ j ∧ j < 12 * u + i then V c (j - 12 * u) else V a j
theorem kR_0 (V : ASt) (a c u : Int) : kR V V a c u 0 := fun j => by rw [if_neg (by omega)]
theorem kR_s {V W U : ASt} {a c u i x : Int} (h : kR V W a c u i) (hx : x = V c i) (e : U a = upI (W a) (12 * u + i) x) (hi : 0 ≤ i) : kR V U a c u (i + 1) := fun j => by
  rw [e]
  by_cases z : j = 12 * u + i
  · rw [z, upI_s, if_pos (by omega), hx, show 12 * u + i - 12 * u = i by omega]
  · rw [upI_n _ _ z, h j]
    by_cases y : 12 * u ≤ j ∧ j < 12 * u + i
    · rw [if_pos y, if_pos (by omega)]
    · rw [if_neg y, if_neg (by omega)]
theorem keeps96 {G : GM} {s : SL} {b u : Int} {V : ASt} (hG : GOK G) (hs : SOK G s) (g1 : rG G b V) (g4 : rS G s V) (hu : 0 ≤ u ∧ u < 40) (h65 : V 142 65 = u) :
    ∀ (n : Nat) (i : Int) (W : ASt), 0 ≤ i → i ≤ qR G → qR G - i < n → (∀ a, a ≠ 185 → a ≠ 186 → a ≠ 187 → a ≠ 188 → W a = V a) → kR V W 185 169 u i → kR V W 186 170 u i → kR V W 187 171 u i → kR V W 188 172 u i →
      Tr (b_M_keeps_L96 S0 142 n W i) (fun _ U => (∀ a, a ≠ 142 → a ≠ 185 → a ≠ 186 → a ≠ 187 → a ≠ 188 → U a = V a) ∧ U 142 = upI (V 142) 65 (u + 1) ∧ kR V U 185 169 u (qR G) ∧ kR V U 186 170 u (qR G) ∧ kR V U 187 171 u (qR G) ∧ kR V U 188 172 u (qR G)) := by
  have hR := hG.2.2.1
  intro n
  induction n with
  | zero => intro i W h1 h2 h3; omega
  | succ n ih =>
    intro i W i0 i1 hn fW k1 k2 k3 k4
    have gW : rG G b W := rG_fr (fun a a1 a2 => fW a (by omega) (by omega) (by omega) (by omega)) g1
    rw [b_M_keeps_L96]
    refine Tr_bq (M_rulesAll gW) ?_
    have e142 : W 142 = V 142 := fW 142 (by decide) (by decide) (by decide) (by decide)
    refine Tr_if (fun c => ?_) (fun c => ?_)
    · have : i = qR G := by omega
      subst this
      rw [e142, h65, w32_id (by omega) (by omega)]
      refine Tr_set (fun U e1 n1 => Tr_ret ⟨fun a a1 a2 a3 a4 a5 => by rw [n1 a a1, fW a a2 a3 a4 a5], by rw [e1, e142], fun j => ?_, fun j => ?_, fun j => ?_, fun j => ?_⟩)
      · rw [n1 185 (by decide)]; exact k1 j
      · rw [n1 186 (by decide)]; exact k2 j
      · rw [n1 187 (by decide)]; exact k3 j
      · rw [n1 188 (by decide)]; exact k4 j
    · have hr := g4 i i0 (by omega)
      have hss := hs.2.2 i i0 (by omega)
      have v9 : W 169 = V 169 := fW 169 (by decide) (by decide) (by decide) (by decide)
      have v70 : W 170 = V 170 := fW 170 (by decide) (by decide) (by decide) (by decide)
      have v71 : W 171 = V 171 := fW 171 (by decide) (by decide) (by decide) (by decide)
      have v72 : W 172 = V 172 := fW 172 (by decide) (by decide) (by decide) (by decide)
      rw [F_142_44, A_169, gd_in (by omega) (by omega), F_142_66, A_185, e142, h65, w32_id (x := 12 * u) (by omega) (by omega), w32_id (x := 12 * u + i) (by omega) (by omega), gd_in (by omega) (by omega)]
      refine Tr_set (fun V1 e1 n1 => ?_)
      rw [F_142_45, A_170, gd_in (by omega) (by omega), F_142_67, A_186, n1 142 (by decide), e142, h65, w32_id (x := 12 * u) (by omega) (by omega), w32_id (x := 12 * u + i) (by omega) (by omega), gd_in (by omega) (by omega), n1 170 (by decide), v70, hr.2.1, zb_t hss.1]
      refine Tr_set (fun V2 e2 n2 => ?_)
      rw [F_142_46, A_171, gd_in (by omega) (by omega), F_142_68, A_187, n2 142 (by decide), n1 142 (by decide), e142, h65, w32_id (x := 12 * u) (by omega) (by omega), w32_id (x := 12 * u + i) (by omega) (by omega), gd_in (by omega) (by omega), n2 171 (by decide), n1 171 (by decide), v71, hr.2.2.1, zb_t hss.2.1]
      refine Tr_set (fun V3 e3 n3 => ?_)
      rw [F_142_47, A_172, gd_in (by omega) (by omega), F_142_69, A_188, n3 142 (by decide), n2 142 (by decide), n1 142 (by decide), e142, h65, w32_id (x := 12 * u) (by omega) (by omega), w32_id (x := 12 * u + i) (by omega) (by omega), gd_in (by omega) (by omega)]
      refine Tr_set (fun V4 e4 n4 => ?_)
      rw [w32_id (x := i + 1) (by omega) (by omega)]
      refine ih (i + 1) V4 (by omega) (by omega) (by omega) (fun a a1 a2 a3 a4 => by rw [n4 a a4, n3 a a3, n2 a a2, n1 a a1, fW a a1 a2 a3 a4]) ?_ ?_ ?_ ?_
      · exact kR_s k1 rfl (by rw [n4 185 (by decide), n3 185 (by decide), n2 185 (by decide), e1, v9]) i0
      · exact kR_s k2 hr.2.1.symm (by rw [n4 186 (by decide), n3 186 (by decide), e2, n1 186 (by decide)]) i0
      · exact kR_s k3 hr.2.2.1.symm (by rw [n4 187 (by decide), e3, n2 187 (by decide), n1 187 (by decide)]) i0
      · exact kR_s k4 rfl (by rw [e4, n3 188 (by decide), n2 188 (by decide), n1 188 (by decide), n3 172 (by decide), n2 172 (by decide), n1 172 (by decide), v72]) i0
def kS (V W : ASt) (a i : Int) : Prop := ∀ j, W a j = if 0 ≤ j ∧ j < i then V a (j + 12) else V a j
theorem kS_0 (V : ASt) (a : Int) : kS V V a 0 := fun j => by rw [if_neg (by omega)]
theorem kS_s {V W U : ASt} {a i x : Int} (h : kS V W a i) (hx : x = V a (i + 12)) (e : U a = upI (W a) i x) (hi : 0 ≤ i) : kS V U a (i + 1) := fun j => by
  rw [e]
  by_cases z : j = i
  · rw [z, upI_s, if_pos (by omega), hx]
  · rw [upI_n _ _ z, h j]
    by_cases y : 0 ≤ j ∧ j < i
    · rw [if_pos y, if_pos (by omega)]
    · rw [if_neg y, if_neg (by omega)]
theorem kS_a {V W : ASt} {a i : Int} (h : kS V W a i) : W a (i + 12) = V a (i + 12) := by rw [h, if_neg (by omega)]
theorem keeps11 {V : ASt} {Q : Int → ASt → Prop} (h65 : V 142 65 = 40) (hb : ∀ j, 0 ≤ j → j < 480 → (V 186 j = 0 ∨ V 186 j = 1) ∧ (V 187 j = 0 ∨ V 187 j = 1))
    (hQ : ∀ V1 : ASt, (∀ a, a ≠ 142 → a ≠ 185 → a ≠ 186 → a ≠ 187 → a ≠ 188 → V1 a = V a) → V1 142 = upI (V 142) 65 39 → kS V V1 185 468 → kS V V1 186 468 → kS V V1 187 468 → kS V V1 188 468 → Tr (b_M_keeps_L96 S0 142 FU V1 0) Q) :
    ∀ (n : Nat) (i : Int) (W : ASt), 0 ≤ i → i ≤ 468 → 468 - i < n → (∀ a, a ≠ 185 → a ≠ 186 → a ≠ 187 → a ≠ 188 → W a = V a) → kS V W 185 i → kS V W 186 i → kS V W 187 i → kS V W 188 i → Tr (b_M_keeps_L11 S0 142 n W i) Q := by
  intro n
  induction n with
  | zero => intro i W h1 h2 h3; omega
  | succ n ih =>
    intro i W i0 i1 hn fW k1 k2 k3 k4
    rw [b_M_keeps_L11]
    have e142 : W 142 = V 142 := fW 142 (by decide) (by decide) (by decide) (by decide)
    refine Tr_if (fun c => ?_) (fun c => ?_)
    · have : i = 468 := by omega
      subst this
      rw [e142, h65, show w32 (40 - 1) = 39 by decide]
      refine Tr_set (fun V1 e1 n1 => hQ V1 (fun a a1 a2 a3 a4 a5 => by rw [n1 a a1, fW a a2 a3 a4 a5]) (by rw [e1, e142]) (fun j => ?_) (fun j => ?_) (fun j => ?_) (fun j => ?_))
      · rw [n1 185 (by decide)]; exact k1 j
      · rw [n1 186 (by decide)]; exact k2 j
      · rw [n1 187 (by decide)]; exact k3 j
      · rw [n1 188 (by decide)]; exact k4 j
    · have hbb := hb (i + 12) (by omega) (by omega)
      rw [w32_id (x := i + 12) (by omega) (by omega), F_142_66, A_185, gd_in (by omega) (by omega), A_185, gd_in (by omega) (by omega)]
      refine Tr_set (fun V1 e1 n1 => ?_)
      rw [F_142_67, A_186, gd_in (by omega) (by omega), A_186, gd_in (by omega) (by omega), n1 186 (by decide), kS_a k2, zb_t hbb.1]
      refine Tr_set (fun V2 e2 n2 => ?_)
      rw [F_142_68, A_187, gd_in (by omega) (by omega), A_187, gd_in (by omega) (by omega), n2 187 (by decide), n1 187 (by decide), kS_a k3, zb_t hbb.2]
      refine Tr_set (fun V3 e3 n3 => ?_)
      rw [F_142_69, A_188, gd_in (by omega) (by omega), A_188, gd_in (by omega) (by omega)]
      refine Tr_set (fun V4 e4 n4 => ?_)
      rw [w32_id (x := i + 1) (by omega) (by omega)]
      refine ih (i + 1) V4 (by omega) (by omega) (by omega) (fun a a1 a2 a3 a4 => by rw [n4 a a4, n3 a a3, n2 a a2, n1 a a1, fW a a1 a2 a3 a4]) ?_ ?_ ?_ ?_
      · exact kS_s k1 (kS_a k1) (by rw [n4 185 (by decide), n3 185 (by decide), n2 185 (by decide), e1]) i0
      · exact kS_s k2 rfl (by rw [n4 186 (by decide), n3 186 (by decide), e2, n1 186 (by decide)]) i0
      · exact kS_s k3 rfl (by rw [n4 187 (by decide), e3, n2 187 (by decide), n1 187 (by decide)]) i0
      · exact kS_s k4 (kS_a k4) (by rw [e4, n3 188 (by decide), n2 188 (by decide), n1 188 (by decide)]) i0
/-- the slate kept, and the oldest dropped -/
def kpH (x : ST) (i : Int) : SL := if xN x 1 = 40 then (if i = 39 then xS x else if i < 39 then xH x (i + 1) else xH x i) else if i = xN x 1 then xS x else xH x i
def xKp (x : ST) : ST := uN (uH x (kpH x)) 1 (if xN x 1 = 40 then 40 else xN x 1 + 1)
theorem xKp_n (x : ST) {j : Int} (h : j ≠ 1) : xN (xKp x) j = xN x j := uN_n (uH x (kpH x)) _ h
theorem xKp_1 (x : ST) : xN (xKp x) 1 = if xN x 1 = 40 then 40 else xN x 1 + 1 := uN_s _ _ _
/-- rI of a state that differs in kept slates and its number -/
theorem rI_kp {x x' : ST} {V U : ASt} (h : rI x V) (e1 : x'.1 = x.1) (e2 : x'.2.1 = x.2.1) (e4 : x'.2.2.2.2 = x.2.2.2.2) (hn : ∀ k, k ≠ 1 → xN x' k = xN x k) (h40 : xH x' 40 = xH x 40) (hf : ∀ a, rK a → a ≠ 185 → a ≠ 186 → a ≠ 187 → a ≠ 188 → U a = V a) (h142 : ∀ k, rKn k → k ≠ 65 → U 142 k = V 142 k) (h65 : U 142 65 = xN x' 1)
    (hk : ∀ i, 0 ≤ i → i < xN x' 1 → ∀ k, 0 ≤ k → k < qR (xG x) → U 185 (12 * i + k) = sA (xH x' i) k ∧ U 186 (12 * i + k) = sX (xH x' i) k ∧ U 187 (12 * i + k) = sT (xH x' i) k ∧ U 188 (12 * i + k) = sN (xH x' i) k)
    (hb : ∀ j, 0 ≤ j → j < 480 → (U 186 j = 0 ∨ U 186 j = 1) ∧ (U 187 j = 0 ∨ U 187 j = 1)) : rI x' U := by
  obtain ⟨b, g1, g2, g3, g4, g5, g6, g7, g8, g9, g10, g11⟩ := h
  have eG : xG x' = xG x := e1
  have eS : xS x' = xS x := e2
  have eT : ∀ i, xT x' i = xT x i := fun i => by unfold xT; rw [e4]
  have eI : ∀ i, xI x' i = xI x i := fun i => by unfold xI; rw [e4]
  refine ⟨b, ?_, ?_, ?_, ?_, ?_, ?_, ?_, ?_, ?_, ?_, ?_, hb⟩
  · rw [eG]; exact rG_fr2 (h142 12 (by unfold rKn; omega) (by decide)) (fun a a1 a2 => hf a (Or.inl ⟨a1, a2⟩) (by omega) (by omega) (by omega) (by omega)) g1
  · rw [eG]; exact rT_fr (fun a a1 a2 => hf a (Or.inl ⟨by omega, a2⟩) (by omega) (by omega) (by omega) (by omega)) g2
  · rw [eG]; unfold rL at *; rw [hf 146 (by unfold rK; omega) (by decide) (by decide) (by decide) (by decide)]; exact g3
  · rw [eG, eS]; exact rS_fr (fun a a1 a2 => hf a (by unfold rK; omega) (by omega) (by omega) (by omega) (by omega)) g4
  · rw [h142 48 (by unfold rKn; omega) (by decide), h65, h142 72 (by unfold rKn; omega) (by decide), h142 59 (by unfold rKn; omega) (by decide), h142 60 (by unfold rKn; omega) (by decide), h142 61 (by unfold rKn; omega) (by decide), h142 1 (by unfold rKn; omega) (by decide), h142 10 (by unfold rKn; omega) (by decide), h142 11 (by unfold rKn; omega) (by decide), h142 80 (by unfold rKn; omega) (by decide), hn 0 (by decide), hn 2 (by decide), hn 3 (by decide), hn 4 (by decide), hn 5 (by decide), hn 6 (by decide), hn 7 (by decide), hn 8 (by decide), hn 9 (by decide)]
    exact ⟨g5.1, rfl, g5.2.2⟩
  · rw [hf 173 (by unfold rK; omega) (by decide) (by decide) (by decide) (by decide), hf 174 (by unfold rK; omega) (by decide) (by decide) (by decide) (by decide), hn 10 (by decide), hn 11 (by decide), hn 12 (by decide), hn 13 (by decide)]; exact g6
  · intro k k0 k1
    rw [hf 166 (by unfold rK; omega) (by decide) (by decide) (by decide) (by decide), hn _ (by omega)]; exact g7 k k0 k1
  · rw [hn 6 (by decide), hf 143 (by unfold rK; omega) (by decide) (by decide) (by decide) (by decide)]
    intro i i0 i1
    rw [eT]; exact g8 i i0 i1
  · rw [hn 9 (by decide), hf 197 (by unfold rK; omega) (by decide) (by decide) (by decide) (by decide)]
    intro i i0 i1
    rw [eI]; exact g9 i i0 i1
  · rw [eG]; exact hk
  · rw [hn 2 (by decide), eG, h40, hf 191 (by unfold rK; omega) (by decide) (by decide) (by decide) (by decide), hf 192 (by unfold rK; omega) (by decide) (by decide) (by decide) (by decide)]; exact g11.1
theorem R_keeps {x : ST} {V : ASt} (hG : GOK (xG x)) (hs : SOK (xG x) (xS x)) (h1 : 0 ≤ xN x 1 ∧ xN x 1 ≤ 40) (h : rI x V) : Tr (f_M_keeps S0 V 142) (fun _ U => rI (xKp x) U ∧ frM V U) := by
  have hR := hG.2.2.1
  have h' := h
  obtain ⟨b, g1, g2, g3, g4, g5, g6, g7, g8, g9, g10, g11⟩ := h
  have hu := g5.2.1
  unfold f_M_keeps
  rw [gd_t O_142]
  have vX : ∀ j, 0 ≤ j → j < qR (xG x) → (V 170 j = 0 ∨ V 170 j = 1) ∧ (V 171 j = 0 ∨ V 171 j = 1) := fun j j0 j1 => by
    have := g4 j j0 j1
    rw [this.2.1, this.2.2.1]
    exact ⟨(hs.2.2 j j0 j1).1, (hs.2.2 j j0 j1).2.1⟩
  refine Tr_if (fun c => ?_) (fun c => ?_)
  · have hx40 : xN x 1 = 40 := by omega
    refine keeps11 c g11.2 (fun V1 f1 m1 k1 k2 k3 k4 => ?_) FU 0 V (by omega) (by omega) (by rw [FU_v]; omega) (fun _ _ _ _ _ => rfl) (kS_0 V 185) (kS_0 V 186) (kS_0 V 187) (kS_0 V 188)
    have gg1 : rG (xG x) b V1 := rG_fr2 (by rw [m1, upI_n _ _ (by decide)]) (fun a a1 a2 => f1 a (by omega) (by omega) (by omega) (by omega) (by omega)) g1
    have gg4 : rS (xG x) (xS x) V1 := rS_fr (fun a a1 a2 => f1 a (by omega) (by omega) (by omega) (by omega) (by omega)) g4
    refine Tr_mono (keeps96 hG hs gg1 gg4 (u := 39) (by decide) (by rw [m1, upI_s]) FU 0 V1 (by omega) (by omega) (by rw [FU_v]; omega) (fun _ _ _ _ _ => rfl) (kR_0 _ _ _ _) (kR_0 _ _ _ _) (kR_0 _ _ _ _) (kR_0 _ _ _ _)) ?_
    rintro r U ⟨f2, m2, q1, q2, q3, q4⟩
    have row : ∀ a c, kS V V1 a 468 → kR V1 U a c 39 (qR (xG x)) → V1 c = V c → ∀ i k, 0 ≤ i → i < 40 → 0 ≤ k → k < qR (xG x) → U a (12 * i + k) = if i = 39 then V c k else V a (12 * (i + 1) + k) := by
      intro a c hS hK hc i k i0 i1 k0 k1
      rw [hK]
      by_cases z : i = 39
      · rw [if_pos z, if_pos (by omega), hc, show 12 * i + k - 12 * 39 = k by omega]
      · rw [if_neg z, if_neg (by omega), hS, if_pos (by omega), show 12 * i + k + 12 = 12 * (i + 1) + k by omega]
    refine ⟨rI_kp h' rfl rfl rfl (fun k hk => xKp_n x hk) ?_ (fun a ha a1 a2 a3 a4 => ?_) (fun k hk k65 => ?_) ?_ ?_ ?_, fun a ha => by rw [f2 a (by omega) (by omega) (by omega) (by omega) (by omega), f1 a (by omega) (by omega) (by omega) (by omega) (by omega)]⟩
    · show kpH x 40 = _
      unfold kpH
      rw [if_pos hx40, if_neg (by decide), if_neg (by decide)]
    · have : a ≠ 142 := by unfold rK at ha; omega
      rw [f2 a this a1 a2 a3 a4, f1 a this a1 a2 a3 a4]
    · rw [m2, upI_n _ _ k65, m1, upI_n _ _ k65]
    · rw [m2, upI_s, xKp_1, if_pos hx40]; rfl
    · intro i i0 i1 k k0 kk
      rw [xKp_1, if_pos hx40] at i1
      have hk := g4 k k0 kk
      have e9 : V1 169 = V 169 := f1 169 (by decide) (by decide) (by decide) (by decide) (by decide)
      have e70 : V1 170 = V 170 := f1 170 (by decide) (by decide) (by decide) (by decide) (by decide)
      have e71 : V1 171 = V 171 := f1 171 (by decide) (by decide) (by decide) (by decide) (by decide)
      have e72 : V1 172 = V 172 := f1 172 (by decide) (by decide) (by decide) (by decide) (by decide)
      rw [row 185 169 k1 q1 e9 i k i0 i1 k0 kk, row 186 170 k2 q2 e70 i k i0 i1 k0 kk, row 187 171 k3 q3 e71 i k i0 i1 k0 kk, row 188 172 k4 q4 e72 i k i0 i1 k0 kk]
      show _ = sA (kpH x i) k ∧ _ = sX (kpH x i) k ∧ _ = sT (kpH x i) k ∧ _ = sN (kpH x i) k
      unfold kpH
      rw [if_pos hx40]
      by_cases z : i = 39
      · rw [if_pos z, if_pos z, if_pos z, if_pos z, if_pos z]; exact hk
      · rw [if_neg z, if_neg z, if_neg z, if_neg z, if_neg z, if_pos (by omega)]
        exact g10 (i + 1) (by omega) (by omega) k k0 kk
    · intro j j0 j1
      have e70 : V1 170 = V 170 := f1 170 (by decide) (by decide) (by decide) (by decide) (by decide)
      have e71 : V1 171 = V 171 := f1 171 (by decide) (by decide) (by decide) (by decide) (by decide)
      rw [q2 j, q3 j]
      by_cases z : 12 * 39 ≤ j ∧ j < 12 * 39 + qR (xG x)
      · rw [if_pos z, if_pos z, e70, e71]; exact vX _ (by omega) (by omega)
      · rw [if_neg z, if_neg z, k2 j, k3 j]
        by_cases y : 0 ≤ j ∧ j < 468
        · rw [if_pos y, if_pos y]; exact g11.2 _ (by omega) (by omega)
        · rw [if_neg y, if_neg y]; exact g11.2 _ j0 j1
  · have hx40 : xN x 1 ≠ 40 := by omega
    refine Tr_mono (keeps96 hG hs g1 g4 (u := xN x 1) (by omega) hu FU 0 V (by omega) (by omega) (by rw [FU_v]; omega) (fun _ _ _ _ _ => rfl) (kR_0 _ _ _ _) (kR_0 _ _ _ _) (kR_0 _ _ _ _) (kR_0 _ _ _ _)) ?_
    rintro r U ⟨f2, m2, q1, q2, q3, q4⟩
    have row : ∀ a c, kR V U a c (xN x 1) (qR (xG x)) → ∀ i k, 0 ≤ i → i < xN x 1 + 1 → 0 ≤ k → k < qR (xG x) → U a (12 * i + k) = if i = xN x 1 then V c k else V a (12 * i + k) := by
      intro a c hK i k i0 i1 k0 k1
      rw [hK]
      by_cases z : i = xN x 1
      · rw [if_pos z, if_pos (by omega), show 12 * i + k - 12 * xN x 1 = k by omega]
      · rw [if_neg z, if_neg (by omega)]
    refine ⟨rI_kp h' rfl rfl rfl (fun k hk => xKp_n x hk) ?_ (fun a ha a1 a2 a3 a4 => ?_) (fun k hk k65 => ?_) ?_ ?_ ?_, fun a ha => by rw [f2 a (by omega) (by omega) (by omega) (by omega) (by omega)]⟩
    · show kpH x 40 = _
      unfold kpH
      rw [if_neg hx40, if_neg (by omega)]
    · have : a ≠ 142 := by unfold rK at ha; omega
      rw [f2 a this a1 a2 a3 a4]
    · rw [m2, upI_n _ _ k65]
    · rw [m2, upI_s, xKp_1, if_neg hx40]
    · intro i i0 i1 k k0 k1
      rw [xKp_1, if_neg hx40] at i1
      have hk := g4 k k0 k1
      rw [row 185 169 q1 i k i0 i1 k0 k1, row 186 170 q2 i k i0 i1 k0 k1, row 187 171 q3 i k i0 i1 k0 k1, row 188 172 q4 i k i0 i1 k0 k1]
      show _ = sA (kpH x i) k ∧ _ = sX (kpH x i) k ∧ _ = sT (kpH x i) k ∧ _ = sN (kpH x i) k
      unfold kpH
      rw [if_neg hx40]
      by_cases z : i = xN x 1
      · rw [if_pos z, if_pos z, if_pos z, if_pos z, if_pos z]; exact hk
      · rw [if_neg z, if_neg z, if_neg z, if_neg z, if_neg z]
        exact g10 i (by omega) (by omega) k k0 k1
    · intro j j0 j1
      rw [q2 j, q3 j]
      by_cases z : 12 * xN x 1 ≤ j ∧ j < 12 * xN x 1 + qR (xG x)
      · rw [if_pos z, if_pos z]; exact vX _ (by omega) (by omega)
      · rw [if_neg z, if_neg z]; exact g11.2 _ j0 j1
-- ---- make, undo, sunday of the reference
noncomputable def sMake (x : ST) (c : Int) : Int := chg (xG x) (xS x) c
def xMake (x : ST) (c : Int) : ST := if chg (xG x) (xS x) c = 1 then xAn (uS (xKp x) (app (xS x) c)) else xRf x 3
theorem R_make {x : ST} {V : ASt} (hG : GOK (xG x)) (hs : SOK (xG x) (xS x)) (h : rI x V) (h1 : 0 ≤ xN x 1 ∧ xN x 1 ≤ 40) (h0 : 0 ≤ xN x 0) (hz : qF (xG x) = 0 → xN x 0 = 0) (h4 : 0 ≤ xN x 4) (hb : ∀ k, 20 ≤ k → k ≤ 25 → 0 ≤ xN x k ∧ xN x k ≤ 100000) (c : Int) : Tr (f_M_make S0 V 142 c) (fun r U => r = sMake x c ∧ rI (xMake x c) U ∧ frM V U) := by
  have h01 := chg_01 (xG x) (xS x) c
  unfold f_M_make sMake xMake
  refine Tr_gd O_142 (Tr_bq (R_isChange hG hs h c) ?_)
  refine Tr_if (fun e => ?_) (fun e => ?_)
  · rw [if_neg (show ¬ (chg (xG x) (xS x) c = 1) by omega)]
    refine Tr_bnd (R_refuses h (k := 3) (by decide) (hb 23 (by decide) (by decide))) ?_
    rintro r U ⟨u1, u2, u3⟩
    rw [u1]
    exact Tr_t (by decide) (Tr_ret ⟨e.symm, u2, u3⟩)
  · have hc1 : chg (xG x) (xS x) c = 1 := by omega
    rw [if_pos hc1]
    refine Tr_bnd (R_keeps hG hs h1 h) ?_
    rintro r U ⟨u1, u2⟩
    refine Tr_bnd (R_changes (x := xKp x) hG hs u1 (chg_r hc1)) ?_
    rintro r2 W ⟨w1, w2⟩
    refine Tr_bnd (R_anews (x := uS (xKp x) (app (xS x) c)) hG w1 ?_ ?_) ?_
    · show 0 ≤ xN (xKp x) 0
      rw [xKp_n x (by decide)]; exact h0
    · show qF (xG x) = 0 → xN (xKp x) 0 = 0
      rw [xKp_n x (by decide)]; exact hz
    rintro r3 Z ⟨z1, z2, z3⟩
    have e4 : xN (uS (xKp x) (app (xS x) c)) 4 = xN x 4 := xKp_n x (by decide)
    rw [z1, e4]
    refine Tr_f (by omega) (Tr_ret ⟨hc1.symm, z2, frM_tr u2 (frM_tr (fun a ha => w2 a (by omega) (by omega) (by omega) (by omega)) z3)⟩)
def sUndo (x : ST) : Int := if xN x 1 = 0 then 0 else 1
def xUndo (x : ST) : ST := if xN x 1 = 0 then xRf x 3 else xAn (uN (uS x (xH x (xN x 1 - 1))) 1 (xN x 1 - 1))
theorem undo33 {G : GM} {s : SL} {b u : Int} {V : ASt} {Q : Int → ASt → Prop} (hG : GOK G) (hs : SOK G s) (g1 : rG G b V) (hu : 0 ≤ u ∧ u < 40) (h65 : V 142 65 = u) (hk : ∀ k, 0 ≤ k → k < qR G → V 185 (12 * u + k) = sA s k ∧ V 186 (12 * u + k) = sX s k ∧ V 187 (12 * u + k) = sT s k ∧ V 188 (12 * u + k) = sN s k)
    (hQ : ∀ W : ASt, (∀ a, a ≠ 169 → a ≠ 170 → a ≠ 171 → a ≠ 172 → W a = V a) → rS G s W → Tr (bnd (f_M_anews S0 W 142) (fun r4 V5 => if r4 < 0 then (some (0, V5)) else (some (1, V5)))) Q) :
    ∀ (n : Nat) (i : Int) (W : ASt), 0 ≤ i → i ≤ qR G → qR G - i < n → (∀ a, a ≠ 169 → a ≠ 170 → a ≠ 171 → a ≠ 172 → W a = V a) → (∀ k, 0 ≤ k → k < i → W 169 k = sA s k ∧ W 170 k = sX s k ∧ W 171 k = sT s k ∧ W 172 k = sN s k) → Tr (b_M_undo_L33 S0 142 n W i) Q := by
  have hR := hG.2.2.1
  intro n
  induction n with
  | zero => intro i W h1 h2 h3; omega
  | succ n ih =>
    intro i W i0 i1 hn fW hW
    have gW : rG G b W := rG_fr (fun a a1 a2 => fW a (by omega) (by omega) (by omega) (by omega)) g1
    have e142 : W 142 = V 142 := fW 142 (by decide) (by decide) (by decide) (by decide)
    rw [b_M_undo_L33]
    refine Tr_bq (M_rulesAll gW) ?_
    refine Tr_if (fun c => ?_) (fun c => ?_)
    · exact hQ W fW (fun k k0 k1 => hW k k0 (by omega))
    · have hr := hk i i0 (by omega)
      have hss := hs.2.2 i i0 (by omega)
      have v5 : W 185 = V 185 := fW 185 (by decide) (by decide) (by decide) (by decide)
      have v6 : W 186 = V 186 := fW 186 (by decide) (by decide) (by decide) (by decide)
      have v7 : W 187 = V 187 := fW 187 (by decide) (by decide) (by decide) (by decide)
      have v8 : W 188 = V 188 := fW 188 (by decide) (by decide) (by decide) (by decide)
      rw [F_142_66, A_185, e142, h65, w32_id (x := 12 * u) (by omega) (by omega), w32_id (x := 12 * u + i) (by omega) (by omega), gd_in (by omega) (by omega), F_142_44, A_169, gd_in (by omega) (by omega)]
      refine Tr_set (fun V1 e1 n1 => ?_)
      rw [F_142_67, A_186, n1 142 (by decide), e142, h65, w32_id (x := 12 * u) (by omega) (by omega), w32_id (x := 12 * u + i) (by omega) (by omega), gd_in (by omega) (by omega), F_142_45, A_170, gd_in (by omega) (by omega), n1 186 (by decide), v6, hr.2.1, zb_t hss.1]
      refine Tr_set (fun V2 e2 n2 => ?_)
      rw [F_142_68, A_187, n2 142 (by decide), n1 142 (by decide), e142, h65, w32_id (x := 12 * u) (by omega) (by omega), w32_id (x := 12 * u + i) (by omega) (by omega), gd_in (by omega) (by omega), F_142_46, A_171, gd_in (by omega) (by omega), n2 187 (by decide), n1 187 (by decide), v7, hr.2.2.1, zb_t hss.2.1]
      refine Tr_set (fun V3 e3 n3 => ?_)
      rw [F_142_69, A_188, n3 142 (by decide), n2 142 (by decide), n1 142 (by decide), e142, h65, w32_id (x := 12 * u) (by omega) (by omega), w32_id (x := 12 * u + i) (by omega) (by omega), gd_in (by omega) (by omega), F_142_47, A_172, gd_in (by omega) (by omega)]
      refine Tr_set (fun V4 e4 n4 => ?_)
      rw [w32_id (x := i + 1) (by omega) (by omega)]
      refine ih (i + 1) V4 (by omega) (by omega) (by omega) (fun a a1 a2 a3 a4 => by rw [n4 a a4, n3 a a3, n2 a a2, n1 a a1, fW a a1 a2 a3 a4]) (fun k k0 k1 => ?_)
      have q1 : V4 169 = upI (W 169) i (sA s i) := by rw [n4 169 (by decide), n3 169 (by decide), n2 169 (by decide), e1, v5, hr.1]
      have q2 : V4 170 = upI (W 170) i (sX s i) := by rw [n4 170 (by decide), n3 170 (by decide), e2, n1 170 (by decide)]
      have q3 : V4 171 = upI (W 171) i (sT s i) := by rw [n4 171 (by decide), e3, n2 171 (by decide), n1 171 (by decide)]
      have q4 : V4 172 = upI (W 172) i (sN s i) := by rw [e4, n3 172 (by decide), n2 172 (by decide), n1 172 (by decide), n3 188 (by decide), n2 188 (by decide), n1 188 (by decide), v8, hr.2.2.2]
      rw [q1, q2, q3, q4]
      by_cases z : k = i
      · rw [z, upI_s, upI_s, upI_s, upI_s]; exact ⟨rfl, rfl, rfl, rfl⟩
      · rw [upI_n _ _ z, upI_n _ _ z, upI_n _ _ z, upI_n _ _ z]; exact hW k k0 (by omega)
theorem R_undo {x : ST} {V : ASt} (hG : GOK (xG x)) (h : rI x V) (h1 : 0 ≤ xN x 1 ∧ xN x 1 ≤ 40) (hH : ∀ i, 0 ≤ i → i < xN x 1 → SOK (xG x) (xH x i)) (h0 : 0 ≤ xN x 0) (hz : qF (xG x) = 0 → xN x 0 = 0) (h4 : 0 ≤ xN x 4) (hb : ∀ k, 20 ≤ k → k ≤ 25 → 0 ≤ xN x k ∧ xN x k ≤ 100000) : Tr (f_M_undo S0 V 142) (fun r U => r = sUndo x ∧ rI (xUndo x) U ∧ frM V U) := by
  have h' := h
  obtain ⟨b, g1, g2, g3, g4, g5, g6, g7, g8, g9, g10, g11⟩ := h
  have hu := g5.2.1
  unfold f_M_undo sUndo xUndo
  rw [gd_t O_142, hu]
  refine Tr_if (fun c => ?_) (fun c => ?_)
  · rw [if_pos c, if_pos c]
    refine Tr_bnd (R_refuses h' (k := 3) (by decide) (hb 23 (by decide) (by decide))) ?_
    rintro r U ⟨u1, u2, u3⟩
    rw [u1]
    exact Tr_t (by decide) (Tr_ret ⟨rfl, u2, u3⟩)
  · rw [if_neg c, if_neg c, w32_id (by omega) (by omega)]
    refine Tr_set (fun V1 e1 n1 => ?_)
    have gg1 : rG (xG x) b V1 := rG_fr2 (by rw [e1, upI_n _ _ (by decide)]) (fun a a1 a2 => n1 a (by omega)) g1
    have hr1 : rI (uN x 1 (xN x 1 - 1)) V1 := by
      refine rI_kp h' rfl rfl rfl (fun k hk => uN_n x _ hk) rfl (fun a ha _ _ _ _ => n1 a (by unfold rK at ha; omega)) (fun k _ k65 => by rw [e1, upI_n _ _ k65]) (by rw [e1, upI_s, uN_s]) ?_ (by rw [n1 186 (by decide), n1 187 (by decide)]; exact g11.2)
      intro i i0 i1 k k0 k1
      rw [uN_s] at i1
      rw [n1 185 (by decide), n1 186 (by decide), n1 187 (by decide), n1 188 (by decide)]
      exact g10 i i0 (by omega) k k0 k1
    have hsk := hH (xN x 1 - 1) (by omega) (by omega)
    refine undo33 hG hsk gg1 (u := xN x 1 - 1) (by omega) (by rw [e1, upI_s]) (fun k k0 k1 => ?_) (fun W fW hS => ?_) FU 0 V1 (by omega) (by have := hG.2.2.1; omega) (by rw [FU_v]; have := hG.2.2.1; omega) (fun _ _ _ _ _ => rfl) (fun k k0 k1 => by omega)
    · rw [n1 185 (by decide), n1 186 (by decide), n1 187 (by decide), n1 188 (by decide)]
      exact g10 (xN x 1 - 1) (by omega) (by omega) k k0 k1
    · have hr2 : rI (uS (uN x 1 (xN x 1 - 1)) (xH x (xN x 1 - 1))) W := rI_uS hr1 fW hS
      refine Tr_bnd (R_anews (x := uS (uN x 1 (xN x 1 - 1)) (xH x (xN x 1 - 1))) hG hr2 ?_ ?_) ?_
      · show 0 ≤ xN (uN x 1 (xN x 1 - 1)) 0
        rw [uN_n x _ (by decide)]; exact h0
      · show qF (xG x) = 0 → xN (uN x 1 (xN x 1 - 1)) 0 = 0
        rw [uN_n x _ (by decide)]; exact hz
      rintro r3 Z ⟨z1, z2, z3⟩
      have e4 : xN (uS (uN x 1 (xN x 1 - 1)) (xH x (xN x 1 - 1))) 4 = xN x 4 := uN_n x _ (by decide)
      rw [z1, e4]
      exact Tr_f (by omega) (Tr_ret ⟨rfl, z2, frM_tr (fun a ha => by rw [fW a (by omega) (by omega) (by omega) (by omega), n1 a (by omega)]) z3⟩)
noncomputable def sSunday (x : ST) : Int := if qF (xG x) = 0 then -2 else cbS x
noncomputable def xSund (x : ST) : ST := if cbS x = -1 then x else uS (xKp x) (app (xS x) (cbS x))
noncomputable def xSunday (x : ST) : ST := if qF (xG x) = 0 then x else xAn (uN (xSund x) 0 (xN x 0 + 1))
theorem cbS_ok (x : ST) : okC (xG x) (xS x) (cbS x) := by
  unfold cbS
  by_cases e : vW (xG x) (xS x) (beg (xG x) (xN x 0)) = 0
  · rw [if_pos e]; exact Or.inl rfl
  · rw [if_neg e]
    by_cases e2 : vW (xG x) (xS x) (beg (xG x) (xN x 0)) = 1
    · rw [if_pos e2]; exact choS_ok _ _ _ _ _
    · rw [if_neg e2]; exact choS_ok _ _ _ _ _
theorem rI_uN0 {x : ST} {V U : ASt} {v : Int} (h : rI x V) (e : U 142 = upI (V 142) 48 v) (hf : ∀ a, a ≠ 142 → U a = V a) : rI (uN x 0 v) U := by
  have h' := h
  obtain ⟨b, g1, g2, g3, g4, g5, g6, g7, -⟩ := h
  have m : ∀ j, j ≠ 0 → xN (uN x 0 v) j = xN x j := fun j hj => uN_n x _ hj
  refine rI_sc h' rfl rfl rfl (fun j hj => m j (by omega)) (fun a ha _ _ _ => hf a (by unfold rK at ha; omega)) (by rw [e, upI_n _ _ (by decide)]) ?_ ⟨?_, fun j j0 j1 => ?_⟩
  · unfold rSc
    rw [e, upI_s, uN_s, m 1 (by decide), m 2 (by decide), m 3 (by decide), m 4 (by decide), m 5 (by decide), m 6 (by decide), m 7 (by decide), m 8 (by decide), m 9 (by decide)]
    exact ⟨rfl, g5.2⟩
  · rw [hf 173 (by decide), hf 174 (by decide), m 10 (by decide), m 11 (by decide), m 12 (by decide), m 13 (by decide)]; exact g6
  · rw [hf 166 (by decide), m _ (by omega)]; exact g7 j j0 j1
theorem R_sunday {x : ST} {V : ASt} (hG : GOK (xG x)) (hs : SOK (xG x) (xS x)) (h : rI x V) (h1 : 0 ≤ xN x 1 ∧ xN x 1 ≤ 40) (h0 : 0 ≤ xN x 0 ∧ xN x 0 ≤ 100000) (hk : (0 ≤ xN x 10 ∧ xN x 10 ≤ 2) ∧ (0 ≤ xN x 11 ∧ xN x 11 ≤ 2)) : Tr (f_M_sunday S0 V 142) (fun r U => r = sSunday x ∧ rI (xSunday x) U ∧ frM V U) := by
  have hgg := h
  obtain ⟨b, g1, -⟩ := hgg
  unfold f_M_sunday sSunday xSunday
  refine Tr_gd O_142 (Tr_bq (M_hasFields hG g1) ?_)
  by_cases c : qF (xG x) = 0
  · rw [if_pos c, if_pos c, if_pos c]
    exact Tr_t rfl (Tr_ret ⟨rfl, h, fun _ _ => rfl⟩)
  rw [if_neg c, if_neg c, if_neg c]
  refine Tr_f (by decide) ?_
  have hJ : ∀ (y : ST) (W : ASt), rI y W → xG y = xG x → xN y 0 = xN x 0 → y = xSund x → frM V W → Tr (b_M_sunday_J29 S0 W 142 (cbS x)) (fun r U => r = cbS x ∧ rI (xAn (uN (xSund x) 0 (xN x 0 + 1))) U ∧ frM V U) := by
    intro y W hW eG e0 ey fW
    unfold b_M_sunday_J29
    rw [r48 hW, e0, w32_id (by omega) (by omega)]
    refine Tr_set (fun V1 e1 n1 => ?_)
    refine Tr_bnd (R_anews (x := uN y 0 (xN x 0 + 1)) ?_ (rI_uN0 hW e1 n1) ?_ ?_) ?_
    · show GOK (xG y)
      rw [eG]; exact hG
    · rw [uN_s]; omega
    · intro e
      have e' : qF (xG y) = 0 := e
      rw [eG] at e'; exact absurd e' c
    rintro r3 Z ⟨z1, z2, z3⟩
    rw [ey] at z2
    exact Tr_ret ⟨rfl, z2, frM_tr fW (frM_tr (fun a ha => n1 a (by omega)) z3)⟩
  refine Tr_bnd (R_changedBy hG hs h h0 hk) ?_
  rintro r U ⟨u1, u2, u3⟩
  rw [u1]
  refine Tr_if (fun e => ?_) (fun e => ?_)
  · exact hJ x U u2 rfl rfl (by unfold xSund; rw [if_pos e]) u3
  · have hc1 : chg (xG x) (xS x) (cbS x) = 1 := by
      rcases cbS_ok x with z | z
      · exact absurd z e
      · exact z
    refine Tr_bnd (R_keeps hG hs h1 u2) ?_
    rintro r2 W ⟨w1, w2⟩
    refine Tr_bnd (R_changes (x := xKp x) hG hs w1 (chg_r hc1)) ?_
    rintro r3 Z ⟨z1, z2⟩
    exact hJ _ Z z1 rfl (xKp_n x (by decide)) (by unfold xSund; rw [if_neg e]; rfl) (frM_tr u3 (frM_tr w2 (fun a ha => z2 a (by omega) (by omega) (by omega) (by omega))))
