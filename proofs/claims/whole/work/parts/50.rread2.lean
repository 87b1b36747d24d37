/-! the reference's calls that lay moves and read -/
theorem frL_M {V U : ASt} (h : frL V U) : frM V U := fun a ha => h.1 a (by omega)
theorem frW_M {V U : ASt} (h : frW V U) : frM V U := fun a ha => h a (by omega) (by omega)
theorem R_isPosition {x : ST} {V : ASt} (hG : GOK (xG x)) (h : rI x V) (p : Int) : f_M_isPosition S0 V 142 p = some (if qF (xG x) ≠ 0 ∧ 0 ≤ p ∧ p < qPos (xG x) then 1 else 0, V) := by
  obtain ⟨b, g1, -⟩ := h
  have hq := qPos_le hG
  unfold f_M_isPosition
  rw [gd_t O_142, M_hasFields hG g1, bnd_e]
  by_cases c : qF (xG x) = 0
  · rw [if_pos c, if_pos rfl, if_neg (fun z => z.1 c)]
  · rw [if_neg c, if_neg (by decide), M_positions hG g1, bnd_e, w32_id (x := qPos (xG x) - 1) (by omega) (by omega), M_is, bnd_e]
    by_cases d : 0 ≤ p ∧ p < qPos (xG x)
    · rw [if_pos (show 0 ≤ p ∧ p ≤ qPos (xG x) - 1 by omega), if_neg (by decide), if_pos ⟨c, d⟩]
    · rw [if_neg (show ¬ (0 ≤ p ∧ p ≤ qPos (xG x) - 1) by omega), if_pos rfl, if_neg (fun z => d z.2)]
def sLawful (x : ST) (p k : Int) : Int := if qF (xG x) ≠ 0 ∧ 0 ≤ p ∧ p < qPos (xG x) then (if k = -1 then ((nx (xG x) (xS x) p).length : Int) else if 0 ≤ k ∧ k < (nx (xG x) (xS x) p).length then (cds (xG x) (xS x) p).getD k.toNat 0 else -1) else -1
theorem R_lawful {x : ST} {V : ASt} (hG : GOK (xG x)) (hs : SOK (xG x) (xS x)) (h : rI x V) (p k : Int) : Tr (f_M_lawful S0 V 142 p k) (fun r U => r = sLawful x p k ∧ rI x U ∧ frM V U) := by
  have hq := qPos_le hG
  unfold f_M_lawful sLawful
  refine Tr_gd O_142 (Tr_bq (R_isPosition hG h p) ?_)
  by_cases c : qF (xG x) ≠ 0 ∧ 0 ≤ p ∧ p < qPos (xG x)
  · rw [if_pos c, if_pos c]
    refine Tr_f (by decide) ?_
    refine Tr_bnd (R_lays hG hs h (Or.inr c.2)) ?_
    rintro r U ⟨u1, u2, u3, u4, u5, -⟩
    have hw := u5 (by omega)
    obtain ⟨r1, r2, r3, r4, r5⟩ := u3 p hw.1 hw.2.1 hw.2.2
    rw [F_142_51, A_175, gd_in (by omega) (by omega), r2]
    refine Tr_if (fun d => ?_) (fun d => ?_)
    · rw [if_pos d]; exact Tr_ret ⟨rfl, u1, frL_M u2⟩
    · rw [if_neg d, gd_in (by omega) (by omega), w32_id (x := ((nx (xG x) (xS x) p).length : Int) - 1) (by omega) (by omega)]
      refine Tr_bq (M_is U k 0 _) ?_
      by_cases e : 0 ≤ k ∧ k < (nx (xG x) (xS x) p).length
      · rw [if_pos (show 0 ≤ k ∧ k ≤ ((nx (xG x) (xS x) p).length : Int) - 1 by omega), if_pos e]
        have h4 := (r4 k.toNat (by omega)).1
        rw [cast_t e.1] at h4
        refine Tr_f (by decide) ?_
        rw [w32_id (x := 20 * p) (by omega) (by omega), w32_id (x := 20 * p + k) (by omega) (by omega), F_142_52, A_176, gd_in (by omega) (by omega), h4]
        exact Tr_ret ⟨rfl, u1, frL_M u2⟩
      · rw [if_neg (show ¬ (0 ≤ k ∧ k ≤ ((nx (xG x) (xS x) p).length : Int) - 1) by omega), if_neg e]
        exact Tr_t rfl (Tr_ret ⟨rfl, u1, frL_M u2⟩)
  · rw [if_neg c, if_neg c]
    exact Tr_t rfl (Tr_ret ⟨rfl, h, fun _ _ => rfl⟩)
/-- who has won -/
def wnr (x : ST) : Int := if xN x 5 ≠ -1 then xN x 5 else if nx (xG x) (xS x) (xN x 3) ≠ [] then -1 else if qU (xG x) = 1 then 2 else if qU (xG x) = 2 then xN x 3 % 2 else 1 - xN x 3 % 2
theorem R_wonBy {x : ST} {V : ASt} (hG : GOK (xG x)) (hs : SOK (xG x) (xS x)) (h : rI x V) (hp : 0 ≤ xN x 3 ∧ xN x 3 < qPos (xG x)) : Tr (f_M_wonBy S0 V 142 (xN x 3)) (fun r U => r = wnr x ∧ rI x U ∧ frM V U) := by
  have hq := qPos_le hG
  have h' := h
  obtain ⟨b, g1, g2, g3, g4, g5, -⟩ := h
  unfold f_M_wonBy wnr
  rw [gd_t O_142, g5.2.2.2.2.2.1]
  refine Tr_if (fun c => ?_) (fun c => ?_)
  · rw [if_neg (fun z => z c)]
    refine Tr_bnd (R_lays hG hs h' (Or.inr hp)) ?_
    rintro r U ⟨u1, u2, u3, u4, u5, -⟩
    have hw := u5 (by omega)
    have hr := u3 _ hw.1 hw.2.1 hw.2.2
    have hb := g1.2.1
    have gU := rG_L u2 g1
    rw [F_142_51, A_175, gd_in (by omega) (by omega), hr.2.1]
    refine Tr_if (fun d => ?_) (fun d => ?_)
    · have hn : nx (xG x) (xS x) (xN x 3) = [] := List.length_eq_zero_iff.mp (by omega)
      rw [if_neg (fun z : nx (xG x) (xS x) (xN x 3) ≠ [] => z hn), F_142_18, A_149, gU.1, gd_in (by omega) (by omega), gU.2.2.2.2.1, tmod_e hp.1, w32_id (by omega) (by omega)]
      refine Tr_if (fun e => ?_) (fun e => ?_)
      · rw [if_pos e]; exact Tr_ret ⟨rfl, u1, frL_M u2⟩
      · rw [if_neg e]
        refine Tr_if (fun f => ?_) (fun f => ?_)
        · rw [if_pos f]; exact Tr_ret ⟨rfl, u1, frL_M u2⟩
        · rw [if_neg f]; exact Tr_ret ⟨rfl, u1, frL_M u2⟩
    · rw [if_pos (fun z => d (by rw [z]; exact Int.le_refl _))]
      exact Tr_ret ⟨rfl, u1, frL_M u2⟩
  · rw [if_pos c]; exact Tr_ret ⟨rfl, h', fun _ _ => rfl⟩
def sPlayed (x : ST) (w : Int) : Int := if qF (xG x) = 0 then -1 else if w = 0 then xN x 3 else if w = 1 then xN x 3 % 2 else if w = 2 then xN x 4 else if w = 3 then wnr x else -1
theorem R_played {x : ST} {V : ASt} (hG : GOK (xG x)) (hs : SOK (xG x) (xS x)) (h : rI x V) (hp : 0 ≤ xN x 3 ∧ xN x 3 < qPos (xG x)) (w : Int) : Tr (f_M_played S0 V 142 w) (fun r U => r = sPlayed x w ∧ rI x U ∧ frM V U) := by
  have h' := h
  obtain ⟨b, g1, g2, g3, g4, g5, -⟩ := h
  unfold f_M_played sPlayed
  refine Tr_gd O_142 (Tr_bq (M_hasFields hG g1) ?_)
  by_cases c : qF (xG x) = 0
  · rw [if_pos c, if_pos c]
    exact Tr_t rfl (Tr_ret ⟨rfl, h', fun _ _ => rfl⟩)
  · rw [if_neg c, if_neg c]
    refine Tr_f (by decide) ?_
    rw [g5.2.2.2.1, g5.2.2.2.2.1, tmod_e hp.1]
    refine Tr_if (fun d => ?_) (fun d => ?_)
    · rw [if_pos d]; exact Tr_ret ⟨rfl, h', fun _ _ => rfl⟩
    rw [if_neg d]
    refine Tr_if (fun d => ?_) (fun d => ?_)
    · rw [if_pos d]; exact Tr_ret ⟨rfl, h', fun _ _ => rfl⟩
    rw [if_neg d]
    refine Tr_if (fun d => ?_) (fun d => ?_)
    · rw [if_pos d]; exact Tr_ret ⟨rfl, h', fun _ _ => rfl⟩
    rw [if_neg d]
    refine Tr_if (fun d => ?_) (fun d => ?_)
    · rw [if_pos d]
      exact Tr_bnd (R_wonBy hG hs h' hp) (fun r U hU => Tr_ret hU)
    rw [if_neg d]
    exact Tr_ret ⟨rfl, h', fun _ _ => rfl⟩
noncomputable def sValue (x : ST) (p w : Int) : Int := if qF (xG x) ≠ 0 ∧ 0 ≤ p ∧ p < qPos (xG x) then (if w = 0 then vW (xG x) (xS x) p else if w = 1 then vT (xG x) (xS x) p else if w = 2 then (if bst (xG x) (xS x) p = -1 then -1 else (cds (xG x) (xS x) p).getD (bst (xG x) (xS x) p).toNat 0) else -2) else -2
theorem bst_m1 {G : GM} {s : SL} {D : Int → Prop} {w t : Int → Int} (hG : GOK G) (hc : cl (nx G s) D) (hS : Sol (nx G s) (qU G - 1) D w t) (hD0 : ∀ p, D p → 0 ≤ p) {p : Int} (hp : D p) : bst G s p = -1 ∨ (0 ≤ bst G s p ∧ bst G s p < (nx G s p).length) := by
  by_cases hm : nx G s p = []
  · left
    exact (bst_e (isF_end (by rw [hm]; exact Nat.le_refl _))).symm
  · exact Or.inr (bst_in hG hc hS hD0 hp hm)
theorem R_value {x : ST} {V : ASt} (hG : GOK (xG x)) (hs : SOK (xG x) (xS x)) (h : rI x V) (p w : Int) : Tr (f_M_value S0 V 142 p w) (fun r U => r = sValue x p w ∧ rI x U ∧ frM V U) := by
  have hq := qPos_le hG
  unfold f_M_value sValue
  refine Tr_gd O_142 (Tr_bq (R_isPosition hG h p) ?_)
  by_cases c : qF (xG x) ≠ 0 ∧ 0 ≤ p ∧ p < qPos (xG x)
  · rw [if_pos c, if_pos c]
    refine Tr_f (by decide) (Tr_bq (M_is V w 0 2) ?_)
    by_cases cw : 0 ≤ w ∧ w ≤ 2
    · rw [if_pos cw]
      refine Tr_f (by decide) (Tr_bnd (R_lays hG hs h (Or.inr c.2)) ?_)
      rintro r U ⟨u1, u2, u3, u4, u5, -⟩
      refine Tr_bnd (R_worths hG u1 u3 u4) ?_
      rintro r2 W ⟨w1, w2, w3, w4⟩
      have hw := w4 p (u5 (by omega))
      refine Tr_bq (M_bestOf hG w3.1 w3.2.2.1 hw.1 w3.2.2.2) ?_
      have fM : frM V W := frM_tr (frL_M u2) (frW_M w2)
      rw [F_142_57, A_180, gd_in (by omega) (by omega), F_142_58, A_181, gd_in (by omega) (by omega), hw.2.1, hw.2.2]
      refine Tr_if (fun d => ?_) (fun d => ?_)
      · rw [if_pos d]; exact Tr_ret ⟨rfl, w1, fM⟩
      rw [if_neg d]
      refine Tr_if (fun d => ?_) (fun d => ?_)
      · rw [if_pos d]; exact Tr_ret ⟨rfl, w1, fM⟩
      rw [if_neg d, if_pos (show w = 2 by omega)]
      refine Tr_if (fun e => ?_) (fun e => ?_)
      · rw [if_pos e]; exact Tr_ret ⟨rfl, w1, fM⟩
      · rw [if_neg e]
        have hb : 0 ≤ bst (xG x) (xS x) p ∧ bst (xG x) (xS x) p < (nx (xG x) (xS x) p).length := by
          rcases bst_m1 hG (RM_cl hG w3.1) w3.2.2.1 (fun q hq => hq.1) hw.1 with z | z
          · exact absurd z e
          · exact z
        obtain ⟨r1, r2, r3, r4, r5⟩ := w3.1 p hw.1.1 hw.1.2.1 hw.1.2.2
        have h4 := (r4 (bst (xG x) (xS x) p).toNat (by omega)).1
        rw [cast_t hb.1] at h4
        rw [w32_id (x := 20 * p) (by omega) (by omega), w32_id (x := 20 * p + bst (xG x) (xS x) p) (by omega) (by omega), F_142_52, A_176, gd_in (by omega) (by omega), h4]
        exact Tr_ret ⟨rfl, w1, fM⟩
    · rw [if_neg cw, if_neg (show ¬ (w = 0) by omega), if_neg (show ¬ (w = 1) by omega), if_neg (show ¬ (w = 2) by omega)]
      exact Tr_t rfl (Tr_ret ⟨rfl, h, fun _ _ => rfl⟩)
  · rw [if_neg c, if_neg c]
    exact Tr_t rfl (Tr_ret ⟨rfl, h, fun _ _ => rfl⟩)
theorem R_worthOn {x : ST} {V : ASt} (hG : GOK (xG x)) (hs : SOK (xG x) (xS x)) (h : rI x V) {d : Int} (hd : 0 ≤ d) : Tr (f_M_worthOn S0 V 142 d) (fun r U => r = vW (xG x) (xS x) (beg (xG x) d) ∧ rI x U ∧ frM V U ∧ vR (vW (xG x) (xS x) (beg (xG x) d)) ∧ (∀ a, (a < 142 ∨ (142 < a ∧ a < 167) ∨ (168 < a ∧ a < 175) ∨ 181 < a) → U a = V a) ∧ (∀ k, k ≠ 56 → U 142 k = V 142 k)) := by
  have hq := qPos_le hG
  have hbr := beg_r hG (d := d)
  have hU := hG.2.2.2.1
  unfold f_M_worthOn
  refine Tr_gd O_142 ?_
  obtain ⟨b, g1, g2⟩ := h
  refine Tr_bq (M_beginning hG g1 hd) ?_
  refine Tr_bnd (R_lays hG hs ⟨b, g1, g2⟩ (Or.inr hbr)) ?_
  rintro r U ⟨u1, u2, u3, u4, u5, -⟩
  refine Tr_bnd (R_worths hG u1 u3 u4) ?_
  rintro r2 W ⟨w1, w2, w3, w4⟩
  have hw := w4 _ (u5 (by omega))
  obtain ⟨b', g1', g2'⟩ := w1
  refine Tr_bq (M_beginning hG g1' hd) ?_
  rw [F_142_57, A_180, gd_in (by omega) (by omega), hw.2.1]
  refine Tr_ret ⟨rfl, ⟨b', g1', g2'⟩, frM_tr (frL_M u2) (frW_M w2), ?_, fun a ha => by rw [w2 a (by omega) (by omega), u2.1 a (by omega)], fun k hk => by rw [w2 142 (by decide) (by decide), u2.2 k hk]⟩
  have := Sol_w w3.2.2.1 (by omega) hw.1
  rw [hw.2.1] at this
  unfold vR
  omega
noncomputable def sWorth (x : ST) : Int := if qF (xG x) = 0 then -2 else vW (xG x) (xS x) (beg (xG x) (xN x 0))
theorem R_worth {x : ST} {V : ASt} (hG : GOK (xG x)) (hs : SOK (xG x) (xS x)) (h : rI x V) (h0 : 0 ≤ xN x 0) : Tr (f_M_worth S0 V 142) (fun r U => r = sWorth x ∧ rI x U ∧ frM V U) := by
  have h' := h
  obtain ⟨b, g1, g2, g3, g4, g5, -⟩ := h
  unfold f_M_worth sWorth
  refine Tr_gd O_142 (Tr_bq (M_hasFields hG g1) ?_)
  by_cases c : qF (xG x) = 0
  · rw [if_pos c, if_pos c]
    exact Tr_t rfl (Tr_ret ⟨rfl, h', fun _ _ => rfl⟩)
  · rw [if_neg c, if_neg c]
    refine Tr_f (by decide) ?_
    rw [g5.1]
    exact Tr_bnd (R_worthOn hG hs h' h0) (fun r U hU => Tr_ret ⟨hU.1, hU.2.1, hU.2.2.1⟩)
noncomputable def sHat (x : ST) : Int := if qF (xG x) = 0 then -1 else if wnr x ≠ -1 then (if wnr x = 2 then -1 else wnr x) else if vW (xG x) (xS x) (xN x 3) = 1 then xN x 3 % 2 else if vW (xG x) (xS x) (xN x 3) = -1 then 1 - xN x 3 % 2 else -1
theorem R_hat {x : ST} {V : ASt} (hG : GOK (xG x)) (hs : SOK (xG x) (xS x)) (h : rI x V) (hp : 0 ≤ xN x 3 ∧ xN x 3 < qPos (xG x)) : Tr (f_M_hat S0 V 142) (fun r U => r = sHat x ∧ rI x U ∧ frM V U) := by
  have hq := qPos_le hG
  have h' := h
  obtain ⟨b, g1, g2, g3, g4, g5, -⟩ := h
  unfold f_M_hat sHat
  refine Tr_gd O_142 (Tr_bq (M_hasFields hG g1) ?_)
  by_cases c : qF (xG x) = 0
  · rw [if_pos c, if_pos c]
    exact Tr_t rfl (Tr_ret ⟨rfl, h', fun _ _ => rfl⟩)
  rw [if_neg c, if_neg c]
  refine Tr_f (by decide) ?_
  rw [g5.2.2.2.1]
  refine Tr_bnd (R_wonBy hG hs h' hp) ?_
  rintro r U ⟨u1, u2, u3⟩
  rw [u1]
  refine Tr_if (fun d => ?_) (fun d => ?_)
  · rw [if_neg (fun z => z d)]
    have e3 : U 142 59 = xN x 3 := by obtain ⟨b', k1, k2, k3, k4, k5, -⟩ := u2; exact k5.2.2.2.1
    rw [e3]
    refine Tr_bnd (R_lays hG hs u2 (Or.inr hp)) ?_
    rintro r3 W ⟨w1, w2, w3, w4, w5, -⟩
    refine Tr_bnd (R_worths hG w1 w3 w4) ?_
    rintro r4 Z ⟨z1, z2, z3, z4⟩
    have hz := z4 _ (w5 (by omega))
    have e4 : Z 142 59 = xN x 3 := by obtain ⟨b', k1, k2, k3, k4, k5, -⟩ := z1; exact k5.2.2.2.1
    have fM : frM V Z := frM_tr u3 (frM_tr (frL_M w2) (frW_M z2))
    rw [e4, F_142_57, A_180, gd_in (by omega) (by omega), hz.2.1, tmod_e hp.1, w32_id (by omega) (by omega)]
    refine Tr_if (fun e => ?_) (fun e => ?_)
    · rw [if_pos e]; exact Tr_ret ⟨rfl, z1, fM⟩
    rw [if_neg e]
    refine Tr_if (fun e => ?_) (fun e => ?_)
    · rw [if_pos e]; exact Tr_ret ⟨rfl, z1, fM⟩
    rw [if_neg e]; exact Tr_ret ⟨rfl, z1, fM⟩
  · rw [if_pos d]
    refine Tr_if (fun e => ?_) (fun e => ?_)
    · rw [if_pos e]; exact Tr_ret ⟨rfl, u2, u3⟩
    · rw [if_neg e]; exact Tr_ret ⟨rfl, u2, u3⟩
noncomputable def sLongest (x : ST) : Int := if qF (xG x) = 0 then -1 else vL (xG x) (xS x) (beg (xG x) (xN x 0))
theorem R_longest' {x : ST} {V : ASt} (hG : GOK (xG x)) (hs : SOK (xG x) (xS x)) (h : rI x V) (h0 : 0 ≤ xN x 0) : Tr (f_M_longest S0 V 142) (fun r U => r = sLongest x ∧ rI x U ∧ frM V U) := by
  have hq := qPos_le hG
  have hbr := beg_r hG (d := xN x 0)
  have h' := h
  obtain ⟨b, g1, g2, g3, g4, g5, -⟩ := h
  unfold f_M_longest sLongest
  refine Tr_gd O_142 (Tr_bq (M_hasFields hG g1) ?_)
  by_cases c : qF (xG x) = 0
  · rw [if_pos c, if_pos c]
    exact Tr_t rfl (Tr_ret ⟨rfl, h', fun _ _ => rfl⟩)
  rw [if_neg c, if_neg c]
  refine Tr_f (by decide) ?_
  rw [g5.1]
  refine Tr_bq (M_beginning hG g1 h0) ?_
  refine Tr_bnd (R_lays hG hs h' (Or.inr hbr)) ?_
  rintro r U ⟨u1, u2, u3, u4, u5, -⟩
  refine Tr_mono (R_longest hG u3 u4 (u5 (by omega)) FU 0 U (by omega) u4.1 (by rw [FU_v]; have := u4.2.1; omega) (fun _ _ => rfl) (fun i a b => by omega)) ?_
  rintro y W ⟨w1, w2⟩
  exact ⟨w2, rI_fr (fun a ha => w1 a (by unfold rK at ha; omega)) (fun k _ => by rw [w1 142 (by decide)]) u1, frM_tr (frL_M u2) (fun a ha => w1 a (by omega))⟩
def erF (x : ST) (j : Int) : Int := xN x (12 + j)
noncomputable def sLikely (x : ST) (n : Int) : Int := if qF (xG x) = 0 ∨ ¬ (0 ≤ n ∧ n ≤ 40) then -1 else chS (xG x) (xS x) (erF x) n.toNat (beg (xG x) (xN x 0))
theorem R_likely {x : ST} {V : ASt} (hG : GOK (xG x)) (hs : SOK (xG x) (xS x)) (h : rI x V) (h0 : 0 ≤ xN x 0) (he : ∀ j, 0 ≤ j → j ≤ 1 → 0 ≤ erF x j ∧ erF x j ≤ 100) (n : Int) : Tr (f_M_likely S0 V 142 n) (fun r U => r = sLikely x n ∧ rI x U ∧ frM V U) := by
  have hq := qPos_le hG
  have hbr := beg_r hG (d := xN x 0)
  have h' := h
  obtain ⟨b, g1, g2, g3, g4, g5, -⟩ := h
  unfold f_M_likely sLikely
  refine Tr_gd O_142 (Tr_bq (M_hasFields hG g1) ?_)
  by_cases c : qF (xG x) = 0
  · rw [if_pos c, if_pos (Or.inl c)]
    exact Tr_t rfl (Tr_ret ⟨rfl, h', fun _ _ => rfl⟩)
  rw [if_neg c]
  refine Tr_f (by decide) (Tr_bq (M_is V n 0 40) ?_)
  by_cases cn' : 0 ≤ n ∧ n ≤ 40
  · rw [if_pos cn', if_neg (show ¬ (qF (xG x) = 0 ∨ ¬ (0 ≤ n ∧ n ≤ 40)) from fun z => z.elim c (fun y => y cn'))]
    refine Tr_f (by decide) ?_
    rw [g5.1]
    refine Tr_bq (M_beginning hG g1 h0) ?_
    refine Tr_bnd (R_lays hG hs h' (Or.inr hbr)) ?_
    rintro r U ⟨u1, u2, u3, u4, u5, -⟩
    refine Tr_bnd (R_worths hG u1 u3 u4) ?_
    rintro r2 W ⟨w1, w2, w3, w4⟩
    have hw := w4 _ (u5 (by omega))
    have w1' := w1
    obtain ⟨b', k1, k2, k3, k4, k5, k6, -⟩ := w1
    have her : ∀ j, 0 ≤ j → j ≤ 1 → W 174 j = erF x j ∧ 0 ≤ erF x j ∧ erF x j ≤ 100 := fun j j0 j1 => by
      refine ⟨?_, he j j0 j1⟩
      have : j = 0 ∨ j = 1 := by omega
      rcases this with e | e <;> subst e
      · exact k6.2.2.1
      · exact k6.2.2.2
    refine Tr_mono (li_L39 hG k1 w3 her cn' hw.1 FU 0 W (by omega) w3.2.1.1 (by rw [FU_v]; have := w3.2.1.2.1; omega) (fun _ _ _ => rfl) (fun i a b => by omega)) ?_
    rintro y Z ⟨z1, z2⟩
    exact ⟨z2, rI_fr (fun a ha => z1 a (by unfold rK at ha; omega) (by unfold rK at ha; omega)) (fun k _ => by rw [z1 142 (by decide) (by decide)]) w1', frM_tr (frM_tr (frL_M u2) (frW_M w2)) (fun a ha => z1 a (by omega) (by omega))⟩
  · rw [if_neg cn', if_pos (show qF (xG x) = 0 ∨ ¬ (0 ≤ n ∧ n ≤ 40) from Or.inr cn')]
    exact Tr_t rfl (Tr_ret ⟨rfl, h', fun _ _ => rfl⟩)
