/-! the tape on both sides; rows of moves -/
def uT (x : ST) (f : Int → Int) : ST := (x.1, x.2.1, x.2.2.1, x.2.2.2.1, f, x.2.2.2.2.2)
theorem rG_fr3 {G : GM} {b : Int} {V W : ASt} (h0 : W 142 12 = V 142 12) (h : ∀ a, 144 ≤ a → a ≤ 159 → W a = V a) (g : rG G b V) : rG G b W := by
  unfold rG at *
  rw [h0, h 144 (by decide) (by decide), h 145 (by decide) (by decide), h 147 (by decide) (by decide), h 148 (by decide) (by decide), h 149 (by decide) (by decide), h 150 (by decide) (by decide), h 151 (by decide) (by decide), h 152 (by decide) (by decide), h 153 (by decide) (by decide), h 154 (by decide) (by decide), h 155 (by decide) (by decide)]
  exact g
def rKp (x : ST) (U : ASt) : Prop := (∀ i, 0 ≤ i → i < xN x 1 → ∀ k, 0 ≤ k → k < qR (xG x) → U 185 (12 * i + k) = sA (xH x i) k ∧ U 186 (12 * i + k) = sX (xH x i) k ∧ U 187 (12 * i + k) = sT (xH x i) k ∧ U 188 (12 * i + k) = sN (xH x i) k) ∧
  (xN x 2 = 1 → ∀ k, 0 ≤ k → k < qR (xG x) → U 191 k = sA (xH x 40) k ∧ U 192 k = rst (xH x 40) k) ∧ (∀ j, 0 ≤ j → j < 480 → (U 186 j = 0 ∨ U 186 j = 1) ∧ (U 187 j = 0 ∨ U 187 j = 1))
theorem rKp_of {x : ST} {V : ASt} (h : rI x V) : rKp x V := by
  obtain ⟨b, g1, g2, g3, g4, g5, g6, g7, g8, g9, g10, g11⟩ := h
  exact ⟨g10, g11⟩
theorem rKp_fr {x x' : ST} {V U : ASt} (h : rKp x V) (e1 : x'.1 = x.1) (eH : x'.2.2.2.1 = x.2.2.2.1) (n1 : xN x' 1 = xN x 1) (n2 : xN x' 2 = xN x 2) (hf : ∀ a, (185 ≤ a ∧ a ≤ 188) ∨ a = 191 ∨ a = 192 → U a = V a) : rKp x' U := by
  have eG : xG x' = xG x := e1
  have eh : ∀ i, xH x' i = xH x i := fun i => by unfold xH; rw [eH]
  unfold rKp at *
  rw [n1, n2, eG, eh 40, hf 185 (by omega), hf 186 (by omega), hf 187 (by omega), hf 188 (by omega), hf 191 (by omega), hf 192 (by omega)]
  exact ⟨fun i i0 i1 k k0 k1 => by rw [eh]; exact h.1 i i0 i1 k k0 k1, h.2⟩
theorem rI_mk {x x' : ST} {V U : ASt} (h : rI x V) (e1 : x'.1 = x.1) (e2 : x'.2.1 = x.2.1) (hf : ∀ a, (144 ≤ a ∧ a ≤ 159) ∨ (169 ≤ a ∧ a ≤ 172) → U a = V a) (h12 : U 142 12 = V 142 12) (hs : rSc x' U) (hr : rRo x' U) (hT : ∀ i, 0 ≤ i → i < xN x' 6 → U 143 i = xT x' i) (hI : ∀ i, 0 ≤ i → i < xN x' 9 → U 197 i = xI x' i) (hk : rKp x' U) : rI x' U := by
  obtain ⟨b, g1, g2, g3, g4, -⟩ := h
  have eG : xG x' = xG x := e1
  have eS : xS x' = xS x := e2
  refine ⟨b, ?_, ?_, ?_, ?_, hs, hr.1, hr.2, hT, hI, hk⟩
  · rw [eG]; exact rG_fr3 h12 (fun a a1 a2 => hf a (by omega)) g1
  · rw [eG]; exact rT_fr (fun a a1 a2 => hf a (by omega)) g2
  · rw [eG]; unfold rL at *; rw [hf 146 (by omega)]; exact g3
  · rw [eG, eS]; exact rS_fr (fun a a1 a2 => hf a (by omega)) g4
theorem rI_tp {x x' : ST} {V U : ASt} (h : rI x V) (e1 : x'.1 = x.1) (e2 : x'.2.1 = x.2.1) (eH : x'.2.2.2.1 = x.2.2.2.1) (eI : x'.2.2.2.2.2 = x.2.2.2.2.2) (hn : ∀ k, k ≠ 6 → xN x' k = xN x k) (hf : ∀ a, rK a → a ≠ 143 → U a = V a) (h142 : ∀ k, rKn k → k ≠ 1 → U 142 k = V 142 k) (h6 : U 142 1 = xN x' 6) (hT : ∀ i, 0 ≤ i → i < xN x' 6 → U 143 i = xT x' i) : rI x' U := by
  have h' := h
  obtain ⟨b, g1, g2, g3, g4, g5, g6, g7, g8, g9, g10⟩ := h
  refine rI_mk h' e1 e2 (fun a ha => hf a (by unfold rK; omega) (by omega)) (h142 12 (by unfold rKn; omega) (by decide)) ?_ ⟨?_, fun k k0 k1 => ?_⟩ hT ?_ (rKp_fr (rKp_of h') e1 eH (hn 1 (by decide)) (hn 2 (by decide)) (fun a ha => hf a (by unfold rK; omega) (by omega)))
  · unfold rSc
    rw [h142 48 (by unfold rKn; omega) (by decide), h142 65 (by unfold rKn; omega) (by decide), h142 72 (by unfold rKn; omega) (by decide), h142 59 (by unfold rKn; omega) (by decide), h142 60 (by unfold rKn; omega) (by decide), h142 61 (by unfold rKn; omega) (by decide), h6, h142 10 (by unfold rKn; omega) (by decide), h142 11 (by unfold rKn; omega) (by decide), h142 80 (by unfold rKn; omega) (by decide), hn 0 (by decide), hn 1 (by decide), hn 2 (by decide), hn 3 (by decide), hn 4 (by decide), hn 5 (by decide), hn 7 (by decide), hn 8 (by decide), hn 9 (by decide)]
    exact ⟨g5.1, g5.2.1, g5.2.2.1, g5.2.2.2.1, g5.2.2.2.2.1, g5.2.2.2.2.2.1, rfl, g5.2.2.2.2.2.2.2⟩
  · rw [hf 173 (by unfold rK; omega) (by decide), hf 174 (by unfold rK; omega) (by decide), hn 10 (by decide), hn 11 (by decide), hn 12 (by decide), hn 13 (by decide)]; exact g6
  · rw [hf 166 (by unfold rK; omega) (by decide), hn _ (by omega)]; exact g7 k k0 k1
  · rw [hn 9 (by decide), hf 197 (by unfold rK; omega) (by decide)]
    intro i i0 i1
    have : xI x' i = xI x i := by unfold xI; rw [eI]
    rw [this]; exact g9 i i0 i1
theorem dIt_g {x x' : ST} {t : Int} {V U : ASt} (h : dIt x t V) (e1 : x'.1 = x.1) (e2 : x'.2.1 = x.2.1) (eH : ∀ i, i ≠ 40 → xH x' i = xH x i) (hn : xN x' 1 = xN x 1) (hl : xN x 1 ≤ 40)
    (hf : ∀ a, ((3 ≤ a ∧ a ≤ 34) ∨ (41 ≤ a ∧ a ≤ 42) ∨ (47 ≤ a ∧ a ≤ 72) ∨ (96 ≤ a ∧ a ≤ 107)) → U a = V a) (r1 : dA x' t U) (r10 : dSp x' U) (r11 : dMa x' U) (r12 : dTp x' U) (r13 : dIm x' U) (r14 : dMi x' U) : dIt x' t U := by
  obtain ⟨h0, h1, h2, h3, h4, h5, h6, h7, h8, h9, h10, h11, h12, h13, h14⟩ := h
  have eG : xG x' = xG x := e1
  have eS : xS x' = xS x := e2
  have ht := h0
  unfold isGm at ht
  refine ⟨h0, r1, ?_, ?_, ?_, ?_, ?_, ?_, ?_, ?_, r10, r11, r12, r13, r14⟩
  · rw [eG]; exact gI_k (fun o a b => hf _ (by omega)) h2
  · rw [eG]; exact dL_k (hf _ (by omega)) h3
  · rw [eG, eS]; exact dS_fr (hf 41 (by omega)) (hf 42 (by omega)) h4
  · have := dM_k (U := U) (fun c a b => hf c (by omega)) h5
    unfold dM at *
    rw [eG, eS]; exact this
  · have := dV_k (U := U) (fun k _ => congrFun (hf 62 (by omega)) k) (hf 63 (by omega)) (hf 64 (by omega)) (fun e => by rw [hf 50 (by omega)]; exact e) h6
    unfold dV at *
    rw [eG, eS]; exact this
  · rw [eG]; exact dWW_k (hf 96 (by omega)) (hf 97 (by omega)) (hf 98 (by omega)) (hf 101 (by omega)) h7
  · rw [eG]; exact dWW_k (hf 102 (by omega)) (hf 103 (by omega)) (hf 104 (by omega)) (hf 107 (by omega)) h8
  · have := dH_k (U := U) (hf 47 (by omega)) (hf 48 (by omega)) (hf 49 (by omega)) h9
    rw [dH_e] at this ⊢
    rw [eG, hn]
    refine ⟨this.1, fun i i0 i1 => ?_⟩
    have hi := this.2 i i0 i1
    have en : nxH x' i = nxH x i := by
      unfold nxH
      rw [hn, eS]
      by_cases z : i + 1 < xN x 1
      · rw [if_pos z, if_pos z, eH (i + 1) (by omega)]
      · rw [if_neg z, if_neg z]
    rw [en, eH i (by omega)]; exact hi
theorem dIt_tp {x x' : ST} {t : Int} {V U : ASt} (h : dIt x t V) (e1 : x'.1 = x.1) (e2 : x'.2.1 = x.2.1) (eH : x'.2.2.2.1 = x.2.2.2.1) (eI : x'.2.2.2.2.2 = x.2.2.2.2.2) (hl : xN x 1 ≤ 40) (hn : ∀ k, k ≠ 6 → xN x' k = xN x k) (hf : ∀ a, a ≠ 1 → a ≠ 2 → a ≠ 110 → U a = V a) (hT : dTp x' U) : dIt x' t U := by
  have h' := h
  obtain ⟨h0, h1, h2, h3, h4, h5, h6, h7, h8, h9, h10, h11, h12, h13, h14⟩ := h
  have eh : ∀ i, xH x' i = xH x i := fun i => by unfold xH; rw [eH]
  have eG : xG x' = xG x := e1
  refine dIt_g h' e1 e2 (fun i _ => eh i) (hn 1 (by decide)) hl (fun a ha => hf a (by omega) (by omega) (by omega)) ?_ ?_ ?_ hT ?_ ?_
  · unfold dA at *; rw [hf 0 (by decide) (by decide) (by decide), hn 0 (by decide)]; exact h1
  · have := dSp_k (U := U) (congrFun (hf 43 (by decide) (by decide) (by decide)) 0) (hf 44 (by decide) (by decide) (by decide)) (hf 45 (by decide) (by decide) (by decide)) h10
    unfold dSp at *
    rw [eG, hn 2 (by decide), eh]; exact this
  · unfold dMa at *; rw [hf 109 (by decide) (by decide) (by decide), hn 3 (by decide), hn 4 (by decide), hn 5 (by decide)]; exact h11
  · unfold dIm at *
    rw [hf 113 (by decide) (by decide) (by decide), hf 114 (by decide) (by decide) (by decide), hn 9 (by decide)]
    refine ⟨h13.1, fun i i0 i1 => ?_⟩
    have : xI x' i = xI x i := by unfold xI; rw [eI]
    rw [this]; exact h13.2 i i0 i1
  · unfold dMi at *
    rw [hf 35 (by decide) (by decide) (by decide), hf 112 (by decide) (by decide) (by decide), hf 111 (by decide) (by decide) (by decide), hf 115 (by decide) (by decide) (by decide), hf 108 (by decide) (by decide) (by decide), hf 37 (by decide) (by decide) (by decide), hf 6 (by decide) (by decide) (by decide), hf 22 (by decide) (by decide) (by decide), hn 7 (by decide), hn 8 (by decide), hn 10 (by decide), hn 11 (by decide), hn 12 (by decide), hn 13 (by decide)]
    exact ⟨h14.1, h14.2.1, h14.2.2.1, h14.2.2.2.1, h14.2.2.2.2.1, h14.2.2.2.2.2.1, fun j j0 j1 => by rw [hn _ (by omega)]; exact h14.2.2.2.2.2.2.1 j j0 j1, h14.2.2.2.2.2.2.2⟩
-- ---- rows of moves
def rowF (G : GM) (s : SL) (T : Int → Int) : Nat → Int → Int → Int
  | 0, _, _ => -1
  | m + 1, k, p => if p ≠ -1 ∧ lgl G s p (T k) then rowF G s T m (k + 1) (if 0 ≤ nxt G s p (T k) then nxt G s p (T k) else -1) else k
def sRow (x : ST) : Int := rowF (xG x) (xS x) (xT x) (xN x 6).toNat 0 (beg (xG x) (xN x 0))
def xTz (x : ST) : ST := uN x 6 0
theorem leadS_b (G : GM) (s : SL) (p k g : Int) : ∀ n, 0 ≤ leadS G s p k g n → leadS G s p k g n = beh G p k g := by
  intro n
  induction n with
  | zero => intro _; rfl
  | succ n ih =>
    rw [leadS]
    by_cases c : sX s (sA s n) = 0 ∧ 2 ≤ qK G (sA s n) ∧ hold G (sA s n) p k g = 1
    · rw [if_pos c]
      intro h
      by_cases d : kNow G s (sA s n) = 2
      · rw [if_pos d] at h; omega
      · rw [if_neg d] at h; omega
    · rw [if_neg c]; exact ih
theorem R_row {x : ST} {V : ASt} (hG : GOK (xG x)) (hs : SOK (xG x) (xS x)) (h : rI x V) (h0 : 0 ≤ xN x 0) (h6 : 0 ≤ xN x 6 ∧ xN x 6 ≤ 1800) (hT : ∀ i, 0 ≤ i → i < xN x 6 → 0 ≤ xT x i ∧ xT x i ≤ 255) : Tr (f_M_row S0 V 142) (fun r U => r = sRow x ∧ rI (xTz x) U ∧ frM V U) := by
  have hq := qPos_le hG
  have hP := hG.2.1
  have hF9 := hG.1
  have h' := h
  obtain ⟨b, g1, g2, g3, g4, g5, g6, g7, g8, -⟩ := h
  have hb2 := g1.2.1
  unfold f_M_row sRow
  rw [gd_t O_142, g5.2.2.2.2.2.2.1]
  refine Tr_set (fun V1 e1 n1 => ?_)
  have hz : rI (xTz x) V1 := rI_tp h' rfl rfl rfl rfl (fun k hk => uN_n x _ hk) (fun a ha _ => n1 a (by unfold rK at ha; omega)) (fun k _ hk => by rw [e1, upI_n _ _ hk]) (by rw [e1, upI_s]; exact (uN_s x 6 0).symm) (fun i i0 i1 => by
    have : xN (xTz x) 6 = 0 := uN_s x 6 0
    omega)
  have f1 : frM V V1 := fun a ha => n1 a (by omega)
  have hz' := hz
  obtain ⟨b1, k1, k2, k3, k4, k5, -⟩ := hz
  have k1g : rG (xG x) b1 V1 := k1
  refine Tr_bq (M_hasFields hG k1g) ?_
  by_cases c : qF (xG x) = 0
  · rw [if_pos c]
    refine Tr_t rfl ?_
    have hp0 := (hG.2.2.2.2.1 c).1
    refine Tr_if (fun d => ?_) (fun d => ?_)
    · rw [show (xN x 6).toNat = 0 by omega, rowF]
      exact Tr_ret ⟨rfl, hz', f1⟩
    · have h00 := hT 0 (by omega) (by omega)
      rw [show (xN x 6).toNat = ((xN x 6).toNat - 1) + 1 by omega, rowF, if_neg (fun z : beg (xG x) (xN x 0) ≠ -1 ∧ lgl (xG x) (xS x) (beg (xG x) (xN x 0)) (xT x 0) => by have := z.2.2.1; omega)]
      exact Tr_ret ⟨rfl, hz', f1⟩
  rw [if_neg c]
  refine Tr_f (by decide) ?_
  have e48 : V1 142 48 = xN x 0 := by rw [e1, upI_n _ _ (by decide)]; exact g5.1
  rw [e48]
  refine Tr_bq (M_beginning hG k1g h0) ?_
  have hl : ∀ (n : Nat) (k p : Int) (W : ASt), 0 ≤ k → k ≤ xN x 6 → xN x 6 - k < n → (p = -1 ∨ (0 ≤ p ∧ p < qPos (xG x))) → frT V1 W → Tr (b_M_row_L38 S0 142 (xN x 6) n W p k) (fun r U => r = rowF (xG x) (xS x) (xT x) (xN x 6 - k).toNat k p ∧ rI (xTz x) U ∧ frM V U) := by
    intro n
    induction n with
    | zero => intro k p W h1 h2 h3; omega
    | succ n ih =>
      intro k p W k0 k1' hn hp fW
      have hW : rI (xTz x) W := rI_T hz' fW
      have fMW : frM V W := frM_tr f1 (fun a ha => fW a (by omega) (by omega))
      have hW' := hW
      obtain ⟨b2, w1, w2, w3, w4, -⟩ := hW
      have w1g : rG (xG x) b2 W := w1
      have hbb := w1g.2.1
      rw [b_M_row_L38]
      refine Tr_if (fun d => ?_) (fun d => ?_)
      · rw [show (xN x 6 - k).toNat = 0 by omega, rowF]
        exact Tr_ret ⟨rfl, hW', fMW⟩
      · have hTk := hT k k0 (by omega)
        have e43 : W 143 k = xT x k := by rw [fW 143 (by decide) (by decide), n1 143 (by decide)]; exact g8 k k0 (by omega)
        rw [show (xN x 6 - k).toNat = (xN x 6 - (k + 1)).toNat + 1 by omega, rowF, F_142_0, A_143, gd_in (by omega) (by omega), e43, w1g.1, F_142_14, A_145, gd_in (by omega) (by omega), w1g.2.2.2.1, F_142_13, A_144, gd_in (by omega) (by omega), w1g.2.2.1, tdiv_e hTk.1, tmod_e hTk.1, w32_id (x := xT x k / 10) (by omega) (by omega)]
        refine Tr_if (fun e => ?_) (fun e => ?_)
        · rw [if_neg (fun z => z.1 e)]; exact Tr_ret ⟨rfl, hW', fMW⟩
        refine Tr_if (fun e2 => ?_) (fun e2 => ?_)
        · rw [if_neg (fun z => by have := z.2.2.1; omega)]; exact Tr_ret ⟨rfl, hW', fMW⟩
        refine Tr_if (fun e3 => ?_) (fun e3 => ?_)
        · rw [if_neg (fun z => by have := z.2.2.2.1; omega)]; exact Tr_ret ⟨rfl, hW', fMW⟩
        have hpp : 0 ≤ p ∧ p < qPos (xG x) := by omega
        refine Tr_bnd (M_isLawful hG hs w1g w4 w2 hpp.1 (by omega) (k := xT x k / 10) (g := xT x k % 10) (by omega) (by omega) (by omega)) ?_
        rintro r U ⟨u1, u2⟩
        have fU : frT V1 U := frT_tr fW u2
        rw [u1]
        refine Tr_if (fun e4 => ?_) (fun e4 => ?_)
        · rw [if_neg (fun z => by have := z.2.2.2.2; omega)]
          exact Tr_ret ⟨rfl, rI_T hz' fU, frM_tr f1 (fun a ha => fU a (by omega) (by omega))⟩
        have hl1 : law (xG x) (xS x) p (xT x k / 10) (xT x k % 10) = 1 := by
          have : law (xG x) (xS x) p (xT x k / 10) (xT x k % 10) = 0 ∨ law (xG x) (xS x) p (xT x k / 10) (xT x k % 10) = 1 := by
            unfold law
            by_cases z : spt (xG x) p (xT x k / 10) = qF (xG x) ∨ (qO (xG x) (xT x k / 10) ≠ 2 ∧ qO (xG x) (xT x k / 10) ≠ p % 2)
            · rw [if_pos z]; exact Or.inl rfl
            · rw [if_neg z]; exact lawS_r _ _ _ _ _ _
          omega
        rw [if_pos (show p ≠ -1 ∧ lgl (xG x) (xS x) p (xT x k) from ⟨e, hTk.1, by omega, by omega, hl1⟩)]
        have hU : rI (xTz x) U := rI_T hz' fU
        obtain ⟨b3, y1, y2, y3, y4, -⟩ := hU
        have y1g : rG (xG x) b3 U := y1
        refine Tr_bnd (M_leads hG hs y1g y4 y2 hpp.1 (by omega) (k := xT x k / 10) (g := xT x k % 10) (by omega) (by omega) (by omega)) ?_
        rintro r2 Z ⟨z1, z2⟩
        have fZ : frT V1 Z := frT_tr fU z2
        have hlr := lead_r hG (s := xS x) (p := p) (k := xT x k / 10) (g := xT x k % 10) hpp.1 (by omega)
        have enx : nxt (xG x) (xS x) p (xT x k) = lead (xG x) (xS x) p (xT x k / 10) (xT x k % 10) := rfl
        rw [z1, w32_id (x := k + 1) (by omega) (by omega), enx]
        refine Tr_if (fun e5 => ?_) (fun e5 => ?_)
        · rw [if_pos e5]
          exact ih (k + 1) _ Z (by omega) (by omega) (by omega) (Or.inr (by omega)) fZ
        · rw [if_neg e5]
          exact ih (k + 1) _ Z (by omega) (by omega) (by omega) (Or.inl rfl) fZ
  have := hl FU 0 (beg (xG x) (xN x 0)) V1 (by omega) (by omega) (by rw [FU_v]; omega) (Or.inr (beg_r hG)) (frT_rfl V1)
  rw [show xN x 6 - 0 = xN x 6 by omega] at this
  exact this
theorem Bt_at {x : ST} {V : ASt} (h : dTp x V) (h6 : 0 ≤ xN x 6 ∧ xN x 6 ≤ 1800) (k : Int) : f_Bytes_at S0 V 1 k = some (if 0 ≤ k ∧ k < xN x 6 then xT x k else -1, V) := by
  unfold f_Bytes_at
  rw [gd_t O_1, h.1, F_1_1, gd_t O_2, L_2, A_2]
  by_cases c : 0 ≤ k ∧ k < xN x 6
  · rw [if_neg (show ¬ (k < 0) by omega), if_neg (show ¬ (xN x 6 ≤ k) by omega), if_neg (show ¬ (1800 ≤ k) by omega), gd_in (by omega) (by omega), if_pos c, h.2 k c.1 c.2]
  · rw [if_neg c]
    by_cases d : k < 0
    · rw [if_pos d]
    · rw [if_neg d, if_pos (by omega)]
theorem D_row {x : ST} {t : Int} {V : ASt} (hG : GOK (xG x)) (hs : SOK (xG x) (xS x)) (h : dIt x t V) (hl40 : xN x 1 ≤ 40) (h6 : 0 ≤ xN x 6 ∧ xN x 6 ≤ 1800) (hT : ∀ i, 0 ≤ i → i < xN x 6 → 0 ≤ xT x i ∧ xT x i ≤ 255) : Tr (f_SG_row S0 V 0) (fun r U => r = sRow x ∧ dIt (xTz x) t U ∧ frX V U) := by
  have h0 := h.1
  have hbr := beg_r hG (d := xN x 0)
  have hP := hG.2.1
  have hF9 := hG.1
  unfold f_SG_row sRow
  rw [gd_t O_0]
  refine Tr_bnd (D_moves hG hs h) ?_
  rintro r U ⟨u1, u2, u3, u4⟩
  have fX : frX V U := mv_X h0 (fun a a1 a2 a3 => u4 a (by omega) a2 a3)
  rw [u1, gd_t (show nn 50 = true by decide)]
  refine Tr_bq (D_beginningNow hG u2) ?_
  rw [F_0_14, gd_t O_110]
  refine Tr_bnd (Ma_begin (Or.inr rfl) U (beg (xG x) (xN x 0))) ?_
  rintro r2 W ⟨w1, w2⟩
  have u2' := u2
  obtain ⟨k0, k1, k2, k3, k4, k5, k6, k7, k8, k9, k10, k11, k12, k13, k14⟩ := u2
  have htm := k0
  unfold isGm at htm
  have hJ : ∀ (Z : ASt) (y : Int), (∀ a, a ≠ 110 → Z a = U a) → y = rowF (xG x) (xS x) (xT x) (xN x 6).toNat 0 (beg (xG x) (xN x 0)) → Tr (b_SG_row_J67 S0 Z 0 y) (fun r U => r = rowF (xG x) (xS x) (xT x) (xN x 6).toNat 0 (beg (xG x) (xN x 0)) ∧ dIt (xTz x) t U ∧ frX V U) := by
    intro Z y fZ ey
    unfold b_SG_row_J67
    rw [F_0_0, gd_t O_1]
    refine Tr_set (fun V1 e1 n1 => Tr_ret ⟨ey, dIt_tp u2' rfl rfl rfl rfl hl40 (fun k hk => uN_n x _ hk) (fun a a1 _ a3 => by rw [n1 a a1, fZ a a3]) ⟨by rw [e1, upI_s]; exact (uN_s x 6 0).symm, fun i i0 i1 => ?_⟩, frX_tr fX (fun a ha => by rw [n1 a (by omega), fZ a (by omega)])⟩)
    have : xN (xTz x) 6 = 0 := uN_s x 6 0
    omega
  have hl : ∀ (n : Nat) (k : Int) (Z : ASt) (sp : Int), 0 ≤ k → k ≤ xN x 6 → xN x 6 - k + 1 < n → (∀ a, a ≠ 110 → Z a = U a) → (0 ≤ Z 110 0 ∧ Z 110 0 < qPos (xG x)) → (0 ≤ Z 110 1 ∧ Z 110 1 ≤ k) → ((Z 110 2 = -1 ∧ sp = Z 110 0) ∨ (Z 110 2 ≠ -1 ∧ sp = -1)) →
      rowF (xG x) (xS x) (xT x) (xN x 6 - k).toNat k sp = rowF (xG x) (xS x) (xT x) (xN x 6).toNat 0 (beg (xG x) (xN x 0)) →
      Tr (b_SG_row_L20 S0 0 50 n Z (-1) k) (fun r U => r = rowF (xG x) (xS x) (xT x) (xN x 6).toNat 0 (beg (xG x) (xN x 0)) ∧ dIt (xTz x) t U ∧ frX V U) := by
    intro n
    induction n with
    | zero => intro k Z sp h1 h2 h3; omega
    | succ n ih =>
      intro k Z sp k0' k1' hn fZ z0 z1 zs hsp
      have gZ : gI (xG x) t Z := gI_k (fun o a b => fZ _ (by omega)) k2
      have tZ : dTp x Z := dTp_k (by rw [fZ 1 (by decide)]) (fZ 2 (by decide)) k12
      have mZ : mvH (xG x) (xS x) 50 Z (Z 110 0) := MA_k (U := Z) (fun o a b => fZ _ (by omega)) u3 _ z0.1 z0.2
      rw [b_SG_row_L20, F_0_0, gd_t O_1, tZ.1]
      refine Tr_if (fun d => ?_) (fun d => ?_)
      · refine hJ Z (-1) fZ ?_
        rw [← hsp, show (xN x 6 - k).toNat = 0 by omega, rowF]
      · have hTk := hT k k0' (by omega)
        rw [show (xN x 6 - k).toNat = (xN x 6 - (k + 1)).toNat + 1 by omega, rowF] at hsp
        refine Tr_t rfl ?_
        refine Tr_bq (Bt_at tZ h6 k) ?_
        rw [if_pos (show 0 ≤ k ∧ k < xN x 6 by omega), F_0_14, gd_t O_110, fZ 0 (by decide), k1.1]
        refine Tr_bnd (Ma_step hG hs (Or.inr rfl) k0 gZ mZ rfl z0 ⟨z1.1, by omega⟩ (c := xT x k) hTk) ?_
        rw [w32_id (x := k + 1) (by omega) (by omega)]
        rintro r3 Y (⟨y1, y2, y3, y4, y5⟩ | ⟨y1, y2, y3⟩)
        · rcases zs with zs | zs
          · rw [y3]
            refine Tr_f (by decide) ?_
            rw [zs.2, if_pos (show Z 110 0 ≠ -1 ∧ lgl (xG x) (xS x) (Z 110 0) (xT x k) from ⟨by omega, y2⟩)] at hsp
            have hgb := beh_r hG (p := Z 110 0) (k := xT x k / 10) (g := xT x k % 10) z0.1 ⟨by omega, y2.2.2.1⟩
            have enx : nxt (xG x) (xS x) (Z 110 0) (xT x k) = lead (xG x) (xS x) (Z 110 0) (xT x k / 10) (xT x k % 10) := rfl
            have hlr := lead_r hG (s := xS x) (p := Z 110 0) (k := xT x k / 10) (g := xT x k % 10) z0.1 ⟨by omega, y2.2.2.1⟩
            have p0 : Y 110 0 = beh (xG x) (Z 110 0) (xT x k / 10) (xT x k % 10) := by rw [y4, upI_n _ _ (by decide), upI_s]
            have p1 : Y 110 1 = Z 110 1 + 1 := by rw [y4, upI_s]
            have p2 : Y 110 2 = enD (xG x) (xS x) (Z 110 0) (xT x k) := by rw [y4, upI_n _ _ (by decide), upI_n _ _ (by decide), upI_s]
            refine ih (k + 1) Y _ (by omega) (by omega) (by omega) (fun a ha => by rw [y5 a ha, fZ a ha]) (by rw [p0]; exact hgb) (by rw [p1]; omega) ?_ hsp
            rw [p0, p2]
            unfold enD
            rw [enx]
            by_cases e5 : 0 ≤ lead (xG x) (xS x) (Z 110 0) (xT x k / 10) (xT x k % 10)
            · rw [if_pos e5, if_neg (by omega), if_neg (by omega)]
              exact Or.inl ⟨rfl, leadS_b _ _ _ _ _ _ e5⟩
            · rw [if_neg e5]
              by_cases e6 : lead (xG x) (xS x) (Z 110 0) (xT x k / 10) (xT x k % 10) = -1
              · rw [if_pos e6]; exact Or.inr ⟨by omega, rfl⟩
              · rw [if_neg e6, if_pos (by omega)]; exact Or.inr ⟨by omega, rfl⟩
          · exact absurd y1 zs.1
        · rw [y2, y3]
          refine Tr_t rfl ?_
          have hno : ¬ (sp ≠ -1 ∧ lgl (xG x) (xS x) sp (xT x k)) := by
            rcases zs with zs | zs
            · exact fun z => y1 ⟨zs.1, by rw [← zs.2]; exact z.2⟩
            · exact fun z => z.1 zs.2
          rw [if_neg hno] at hsp
          rw [show n = (n - 1) + 1 by omega, b_SG_row_L20, F_0_0, gd_t O_1]
          refine Tr_if (fun _ => hJ Z k fZ hsp) (fun _ => Tr_f (by omega) (hJ Z k fZ hsp))
  refine hl FU 0 W (beg (xG x) (xN x 0)) (by omega) (by omega) (by rw [FU_v]; omega) w2 ?_ ?_ ?_ ?_
  · rw [w1, upI_n _ _ (by decide), upI_n _ _ (by decide), upI_s]; exact hbr
  · rw [w1, upI_n _ _ (by decide), upI_s]; omega
  · rw [w1, upI_s, upI_n _ _ (by decide), upI_n _ _ (by decide), upI_s]; exact Or.inl ⟨rfl, rfl⟩
  · rw [show xN x 6 - 0 = xN x 6 by omega]
