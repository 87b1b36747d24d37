/-! the class's calls over a list, and worths -/
theorem dM_l {x : ST} {t : Int} {V U : ASt} (h0 : ∀ k, k ≠ 1 → U 50 k = V 50 k) (h : ∀ c, 53 ≤ c → c ≤ 61 → U c = V c) (g : dM x t V) : dM x t U := by
  obtain ⟨g1, g2, g3, g4⟩ := g
  refine ⟨dP_fr (h0 2 (by decide)) (h0 14 (by decide)) (fun o a b => h _ (by omega) (by omega)) g1, by rw [h0 0 (by decide)]; exact g2, fun e => ?_, fun e => ?_⟩
  · rw [h0 0 (by decide)] at e
    exact ⟨(g3 e).1, MA_k (fun o a b => h _ (by omega) (by omega)) (g3 e).2⟩
  · rw [h0 0 (by decide)] at e
    rw [h 53 (by decide) (by decide)]; exact g4 e
theorem D_listFrom {x : ST} {t : Int} {V : ASt} (hG : GOK (xG x)) (hs : SOK (xG x) (xS x)) (h : dIt x t V) (hM : MA (xG x) (xS x) 50 V) {st : Int} (hst : 0 ≤ st ∧ st < qPos (xG x)) :
    Tr (f_Moves_listFrom S0 V 50 st) (fun _ U => dIt x t U ∧ (∀ a, (a < 50 ∨ 52 < a) → U a = V a) ∧ MA (xG x) (xS x) 50 U ∧ LDC (xG x) (xS x) 50 U (U 50 1) ∧ 0 < U 50 1 ∧ U 51 0 = st ∧ RP (xG x) (xS x) 50 U ∧ U 50 0 = V 50 0) := by
  have hm : isMv 50 := Or.inl rfl
  have h' := h
  obtain ⟨h0, h1, h2, h3, h4, h5, h6, -⟩ := h
  have ht := h0
  unfold isGm at ht
  refine Tr_mono (M_listFrom hG hs hm hM hst) ?_
  rintro r U ⟨u1, u2, u3, u4, u5, u6⟩
  have fU : ∀ a, (a < 50 ∨ 52 < a) → U a = V a := fun a ha => u1 a (by omega) (by omega) (by omega)
  exact ⟨dIt_mv h' (fun a a1 _ _ => fU a (by omega)) (gI_k (fun o a b => fU _ (by omega)) h2) (dM_l u2 (fun c a b => fU c (by omega)) h5) (dV_k (fun k _ => by rw [fU 62 (by omega)]) (fU 63 (by omega)) (fU 64 (by omega)) (fun e => by rw [u2 0 (by decide)]; exact e) h6), fU, MA_k (fun o a b => fU _ (by omega)) hM, u3, u4, u5, u6, u2 0 (by decide)⟩
theorem D_longest {x : ST} {t : Int} {V : ASt} (hG : GOK (xG x)) (hs : SOK (xG x) (xS x)) (h : dIt x t V) : Tr (f_SG_longest S0 V 0) (fun r U => r = sLongest x ∧ dIt x t U ∧ frX V U) := by
  have hv : isVl 62 50 63 := Or.inl ⟨rfl, rfl, rfl⟩
  have hbr := beg_r hG (d := xN x 0)
  have h' := h
  obtain ⟨h0, h1, h2, -⟩ := h
  unfold f_SG_longest sLongest
  rw [gd_t O_0, h1.1, gd_t (OG h0), h2.1.1]
  refine Tr_if (fun c => ?_) (fun c => ?_)
  · rw [if_pos c]; exact Tr_ret ⟨rfl, h', fun _ _ => rfl⟩
  rw [if_neg c]
  refine Tr_bnd (D_movesNow hG hs c h') ?_
  rintro r U ⟨u1, u2, u3, u4, u5⟩
  refine Tr_bq (D_beginningNow hG u2) ?_
  rw [u1, gd_t O_50]
  refine Tr_bnd (D_listFrom hG hs u2 u4 hbr) ?_
  rintro r2 W ⟨w1, w2, w3, w4, w5, w6, w7, w8⟩
  refine Tr_bq (D_beginningNow hG w1) ?_
  rw [F_0_8, gd_t O_62, ← w6]
  have hvl := V_longestFrom hG hs hv w4 w5 w7
  rw [show (50 : Int) + 1 = 51 from rfl] at hvl
  refine Tr_bnd hvl ?_
  rintro y Z ⟨z1, z2, z3⟩
  obtain ⟨k0, k1, k2, k3, k4, k5, k6, -⟩ := w1
  have ht := h0
  unfold isGm at ht
  have fZ : ∀ a, (a < 50 ∨ 72 < a) → a ≠ t + 4 → a ≠ t + 15 → Z a = V a := fun a a1 a2 a3 => by rw [z2 a (by omega) (by omega), w2 a (by omega), u5 a (by omega) a2 a3]
  refine Tr_ret ⟨z1, dIt_mv h' fZ (gI_k (fun o a b => z2 _ (by omega) (by omega)) k2) (dM_k (fun c a b => z2 c (by omega) (by omega)) k5) (dV_k (fun k hk => z3 k (by omega)) (z2 _ (by omega) (by omega)) (z2 _ (by omega) (by omega)) (fun e => by rw [z2 50 (by omega) (by omega)]; exact e) k6), mv_X h0 fZ⟩
theorem D_likely {x : ST} {t : Int} {V : ASt} (hG : GOK (xG x)) (hs : SOK (xG x) (xS x)) (h : dIt x t V) (he : ∀ j, 0 ≤ j → j ≤ 1 → 0 ≤ erF x j ∧ erF x j ≤ 100) (n : Int) : Tr (f_SG_likely S0 V 0 n) (fun r U => r = sLikely x n ∧ dIt x t U ∧ frX V U) := by
  have hv : isVl 62 50 63 := Or.inl ⟨rfl, rfl, rfl⟩
  have hq := qPos_le hG
  have hbr := beg_r hG (d := xN x 0)
  have h' := h
  obtain ⟨h0, h1, h2, -⟩ := h
  have ht := h0
  unfold isGm at ht
  unfold f_SG_likely sLikely
  rw [gd_t O_0, h1.1, gd_t (OG h0), h2.1.1]
  refine Tr_if (fun c => ?_) (fun c => ?_)
  · rw [if_pos (Or.inl c)]; exact Tr_ret ⟨rfl, h', fun _ _ => rfl⟩
  refine Tr_if (fun d => ?_) (fun d => ?_)
  · rw [if_pos (Or.inr (by omega))]; exact Tr_ret ⟨rfl, h', fun _ _ => rfl⟩
  refine Tr_if (fun d2 => ?_) (fun d2 => ?_)
  · rw [if_neg (show ¬ (qF (xG x) = 0 ∨ ¬ (0 ≤ n ∧ n ≤ 40)) from fun z => z.elim c (fun y => y ⟨by omega, d2⟩))]
    refine Tr_bnd (D_valuesNow hG hs c h') ?_
    rintro r U ⟨u1, u2, u3, u4, u5, u6⟩
    rw [u1, gd_t (show nn 62 = true by decide)]
    refine Tr_bq (D_beginningNow hG u2) ?_
    rw [F_0_7, gd_t O_50]
    refine Tr_bnd (D_listFrom hG hs u2 u4 hbr) ?_
    rintro r2 W ⟨w1, w2, w3, w4, w5, w6, w7, w8⟩
    refine Tr_bq (D_beginningNow hG w1) ?_
    have w1' := w1
    obtain ⟨k0, k1, k2, k3, k4, k5, k6, k7, k8, k9, k10, k11, k12, k13, k14⟩ := w1
    have hlst : lP 50 W (beg (xG x) (xN x 0)) := by
      have := w4.1.2.2.1 0 (by omega) w5
      rw [show (50 : Int) + 1 = 51 from rfl, w6] at this
      exact ⟨hbr.1, by omega, this.2.2⟩
    have hsub : ∀ p, lP 50 W p → 0 ≤ p ∧ p < qPos (xG x) := fun p hp => ⟨hp.1, (LDC_at hG w4 hp).1⟩
    have e63 : W 63 = U 63 := w2 63 (by omega)
    have e64 : W (63 + 1) = U (63 + 1) := w2 _ (by omega)
    have hVS : VS (xG x) (xS x) 50 63 W := by
      unfold VS
      rw [e63, e64]
      exact ⟨Sol_sub u5.1 hsub, fun q hq' => u5.2 q (hsub q hq').1 (hsub q hq').2⟩
    have hCC : CC (xG x) (xS x) 62 50 63 t (erF x) W := ⟨w4, hVS, k5.1.1, k2.1, fun j j0 j1 => ⟨by
      have : j = 0 ∨ j = 1 := by omega
      rcases this with e | e <;> subst e
      · exact k14.2.2.2.2.1
      · exact k14.2.2.2.2.2.1, he j j0 j1⟩⟩
    rw [gd_t O_62, F_0_15]
    refine Tr_bnd (V_chanceFrom hG hs hv k0 hCC k6.2.2 hlst ⟨by omega, d2⟩) ?_
    rintro y Z ⟨z1, z2, z3⟩
    have fZ : ∀ a, (a < 50 ∨ 72 < a) → a ≠ t + 4 → a ≠ t + 15 → Z a = V a := fun a a1 a2 a3 => by rw [z2.1 a (by omega) (by omega) (by omega) (by omega), w2 a (by omega), u6 a a1 a2 a3]
    have fM : ∀ a, 50 ≤ a → a ≤ 61 → Z a = W a := fun a a1 a2 => z2.1 a (by omega) (by omega) (by omega) (by omega)
    refine Tr_ret ⟨z1, dIt_mv h' fZ (gI_k (fun o a b => z2.1 _ (by omega) (by omega) (by omega) (by omega)) k2) (dM_k fM k5) ⟨?_, fun e => ?_, z3⟩, mv_X h0 fZ⟩
    · rw [z2.2 0 (by decide) (by decide)]; exact k6.1
    · rw [z2.2 0 (by decide) (by decide)] at e
      refine ⟨?_, by rw [fM 50 (by omega) (by omega)]; exact (k6.2.1 e).2⟩
      have := (k6.2.1 e).1
      unfold VA at *
      rw [z2.1 63 (by omega) (by omega) (by omega) (by omega), z2.1 (63 + 1) (by omega) (by omega) (by omega) (by omega)]; exact this
  · rw [if_pos (Or.inr (by omega))]; exact Tr_ret ⟨rfl, h', fun _ _ => rfl⟩
-- ---- worths of slates
/-- what is changed when worths are asked -/
def frQ (t : Int) (V U : ASt) : Prop := ∀ a, (a < 73 ∨ 91 < a) → (a < 96 ∨ 107 < a) → a ≠ t + 4 → a ≠ t + 15 → U a = V a
theorem frQ_tr {t : Int} {V U W : ASt} (h : frQ t V U) (h2 : frQ t U W) : frQ t V W := fun a a1 a2 a3 a4 => by rw [h2 a a1 a2 a3 a4, h a a1 a2 a3 a4]
theorem frQ_X {t : Int} {V U : ASt} (ht : isGm t) (h : frQ t V U) : frX V U := fun a ha => h a (by omega) (by omega) (by unfold isGm at ht; omega) (by unfold isGm at ht; omega)
/-- the state with worths that speak of sb at w -/
def dQ (x : ST) (t w : Int) (sb : SL) (V : ASt) : Prop := dIt x t V ∧ isWo w ∧ dW (xG x) sb t w V
theorem dQ_of {x : ST} {t w : Int} {sb : SL} {V U : ASt} (h : dQ x t w sb V) (hg : gI (xG x) t U) (hW : dW (xG x) sb t w U) (hf : frR w t V U) : dQ x t w sb U ∧ frQ t V U := by
  obtain ⟨h0, hw, h2⟩ := h
  have hww := hw
  unfold isWo at hww
  have ht := h0.1
  unfold isGm at ht
  have fQ : frQ t V U := fun a a1 a2 a3 a4 => hf a (by omega) (by omega) (by omega) a1 a3 a4
  refine ⟨⟨dIt_wo h0 fQ hg ?_ ?_, hw, hW⟩, fQ⟩
  · rcases hww with e | e
    · subst e; exact Or.inr ⟨sb, hW⟩
    · subst e; exact dWW_k (hf _ (by omega) (by omega) (by omega) (by omega) (by omega) (by omega)) (hf _ (by omega) (by omega) (by omega) (by omega) (by omega) (by omega)) (hf _ (by omega) (by omega) (by omega) (by omega) (by omega) (by omega)) (hf _ (by omega) (by omega) (by omega) (by omega) (by omega) (by omega)) h0.2.2.2.2.2.2.2.1
  · rcases hww with e | e
    · subst e; exact dWW_k (hf _ (by omega) (by omega) (by omega) (by omega) (by omega) (by omega)) (hf _ (by omega) (by omega) (by omega) (by omega) (by omega) (by omega)) (hf _ (by omega) (by omega) (by omega) (by omega) (by omega) (by omega)) (hf _ (by omega) (by omega) (by omega) (by omega) (by omega) (by omega)) h0.2.2.2.2.2.2.2.2.1
    · subst e; exact Or.inr ⟨sb, hW⟩
theorem Q_worthBy {x : ST} {t w : Int} {sb : SL} {V : ASt} (hG : GOK (xG x)) (hF : qF (xG x) ≠ 0) (h : dQ x t w sb V) {c j : Int} (hc : okC (xG x) sb c) (hj : j = 0 ∨ j = 1) :
    Tr (f_Worths_worthBy S0 V w c j) (fun r U => r = vW (xG x) (scS sb c) (beg (xG x) j) ∧ dQ x t w sb U ∧ frQ t V U ∧ vR (vW (xG x) (scS sb c) (beg (xG x) j))) := by
  refine Tr_mono (W_worthBy hG h.2.1 h.1.1 hF h.1.2.2.1 h.2.2 hc hj) ?_
  rintro r U ⟨u1, u2, u3, u4, u5⟩
  have := dQ_of h u2 u3 u4
  exact ⟨u1, this.1, this.2, u5⟩
theorem Q_loserOf {x : ST} {t w : Int} {sb : SL} {V : ASt} (hG : GOK (xG x)) (hF : qF (xG x) ≠ 0) (h : dQ x t w sb V) {j : Int} (hj : j = 0 ∨ j = 1) :
    Tr (f_Worths_loserOf S0 V w j) (fun r U => r = (if vW (xG x) sb (beg (xG x) j) = 0 then -1 else if vW (xG x) sb (beg (xG x) j) < 0 then j else 1 - j) ∧ dQ x t w sb U ∧ frQ t V U) := by
  refine Tr_mono (W_loserOf hG h.2.1 h.1.1 hF h.1.2.2.1 h.2.2 hj) ?_
  rintro r U ⟨u1, u2, u3, u4⟩
  have := dQ_of h u2 u3 u4
  exact ⟨u1, this.1, this.2⟩
def kdF (x : ST) (pl : Int) : Int := if pl = -1 then 0 else xN x (10 + pl)
theorem Q_choiceOf {x : ST} {t w : Int} {sb : SL} {V : ASt} (hG : GOK (xG x)) (hF : qF (xG x) ≠ 0) (hk : (0 ≤ xN x 10 ∧ xN x 10 ≤ 2) ∧ (0 ≤ xN x 11 ∧ xN x 11 ≤ 2)) (h : dQ x t w sb V) {pl st : Int} (hst : st = 0 ∨ st = 1) (hpl : pl = -1 ∨ pl = 0 ∨ pl = 1) :
    Tr (f_Worths_choiceOf S0 V w pl 112 st) (fun r U => r = choS (xG x) sb (kdF x pl) (if pl = st then 1 else 0) st ∧ dQ x t w sb U ∧ frQ t V U) := by
  have h14 := h.1.2.2.2.2.2.2.2.2.2.2.2.2.2.2
  have hkk : ∀ j, 0 ≤ j → j ≤ 1 → 0 ≤ V 112 j ∧ V 112 j ≤ 2 := fun j j0 j1 => by
    have : j = 0 ∨ j = 1 := by omega
    rcases this with e | e <;> subst e
    · rw [h14.2.2.1]; exact hk.1
    · rw [h14.2.2.2.1]; exact hk.2
  refine Tr_mono (W_choiceOf hG h.2.1 h.1.1 hF h.1.2.2.1 h.2.2 hst hpl hkk) ?_
  rintro r U ⟨u1, u2, u3, u4⟩
  have := dQ_of h u2 u3 u4
  refine ⟨?_, this.1, this.2⟩
  rw [u1]
  unfold kdF
  rcases hpl with e | e | e <;> subst e
  · rfl
  · rw [if_neg (show ¬ ((0 : Int) = -1) by decide), if_neg (show ¬ ((0 : Int) = -1) by decide), h14.2.2.1]; rfl
  · rw [if_neg (show ¬ ((1 : Int) = -1) by decide), if_neg (show ¬ ((1 : Int) = -1) by decide), h14.2.2.2.1]; rfl
/-- the worths of a slate that lies at a -/
theorem D_worthsOf {x : ST} {t a : Int} {sb : SL} {V : ASt} (hG : GOK (xG x)) (hs : SOK (xG x) sb) (hn : SNM (xG x) sb) (h : dIt x t V) (ha : isSl a) (hna : a ≠ 97 ∧ a ≠ 103) (hS : dS (xG x) sb a V) :
    Tr (f_SG_worthsOf S0 V 0 a) (fun w U => dQ x t w sb U ∧ frQ t V U) := by
  have h' := h
  obtain ⟨h0, h1, h2, h3, h4, h5, h6, h7, h8, -⟩ := h
  have ht := h0
  unfold isGm at ht
  unfold f_SG_worthsOf
  rw [gd_t O_0, gd_t (OS ha), F_0_4]
  obtain ⟨y, hy, -⟩ := S_isLike hG ha (Or.inl rfl) hS h4
  refine Tr_bq hy ?_
  have hJ : ∀ w, isWo w → Tr (b_SG_worthsOf_J22 S0 V 0 a w) (fun w U => dQ x t w sb U ∧ frQ t V U) := by
    intro w hw
    have hww := hw
    unfold isWo at hww
    unfold b_SG_worthsOf_J22
    rw [gd_t (show nn w = true from decide_eq_true (by omega)), gd_t (OW hw), h1.1]
    have hWW : dWW (xG x) t w V := by
      rcases hww with e | e <;> subst e
      · exact h7
      · exact h8
    refine Tr_bnd (W_referTo hG hs hn hw ha (by omega) hWW hS) ?_
    rintro r U ⟨u1, u2⟩
    have fQ : frQ t V U := fun b a1 a2 a3 a4 => u2 b (by omega) (by omega) (by omega) (by omega)
    refine Tr_ret ⟨⟨dIt_wo h' fQ (gI_k (fun o a b => u2 _ (by omega) (by omega) (by omega) (by omega)) h2) ?_ ?_, hw, u1⟩, fQ⟩
    · rcases hww with e | e
      · subst e; exact Or.inr ⟨sb, u1⟩
      · subst e; exact dWW_k (u2 _ (by omega) (by omega) (by omega) (by omega)) (u2 _ (by omega) (by omega) (by omega) (by omega)) (u2 _ (by omega) (by omega) (by omega) (by omega)) (u2 _ (by omega) (by omega) (by omega) (by omega)) h7
    · rcases hww with e | e
      · subst e; exact dWW_k (u2 _ (by omega) (by omega) (by omega) (by omega)) (u2 _ (by omega) (by omega) (by omega) (by omega)) (u2 _ (by omega) (by omega) (by omega) (by omega)) (u2 _ (by omega) (by omega) (by omega) (by omega)) h8
      · subst e; exact Or.inr ⟨sb, u1⟩
  rw [F_0_10, F_0_11]
  refine Tr_if (fun c => ?_) (fun c => ?_)
  · exact hJ 102 (Or.inr rfl)
  · exact hJ 96 (Or.inl rfl)
theorem beg_m (G : GM) (d : Int) : beg G (d % 2) = beg G d := by
  unfold beg
  rw [show d % 2 % 2 = d % 2 by omega]
theorem D_starter {x : ST} {t : Int} {V : ASt} (h : dIt x t V) : f_SG_starterNow S0 V 0 = some (xN x 0 % 2, V) := by
  unfold f_SG_starterNow
  rw [gd_t O_0, and32_1, h.2.1.2.2]
theorem D_worth {x : ST} {t : Int} {V : ASt} (hG : GOK (xG x)) (hs : SOK (xG x) (xS x)) (hn : SNM (xG x) (xS x)) (h : dIt x t V) : Tr (f_SG_worth S0 V 0) (fun r U => r = sWorth x ∧ dIt x t U ∧ frX V U) := by
  have h' := h
  obtain ⟨h0, h1, h2, h3, h4, -⟩ := h
  unfold f_SG_worth sWorth
  rw [gd_t O_0, h1.1, gd_t (OG h0), h2.1.1, F_0_4]
  refine Tr_if (fun c => ?_) (fun c => ?_)
  · rw [if_pos c]; exact Tr_ret ⟨rfl, h', fun _ _ => rfl⟩
  rw [if_neg c]
  refine Tr_bnd (D_worthsOf hG hs hn h' (Or.inl rfl) (by decide) h4) ?_
  rintro w U ⟨u1, u2⟩
  refine Tr_bq (D_starter u1.1) ?_
  rw [gd_t (OW u1.2.1)]
  refine Tr_bnd (Q_worthBy hG c u1 (c := -1) (Or.inl rfl) (by omega)) ?_
  rintro r W ⟨w1, w2, w3, -⟩
  refine Tr_ret ⟨?_, w2.1, frQ_X h0 (frQ_tr u2 w3)⟩
  rw [w1, beg_m]; rfl
