/-! moves and values now -/
theorem MA_of {G : GM} {s : SL} {m : Int} {V : ASt} (hG : GOK G) (hL : LDC G s m V (V m 1)) (hall : ∀ q, 0 ≤ q → q < qPos G → V (m + 2) q = 1) : MA G s m V := fun p a b => by
  have := qPos_le hG
  exact (LDC_at hG hL (p := p) ⟨a, by omega, hall p a b⟩).2.1
theorem dV_mv {x : ST} {V U : ASt} (h : dV x V) (h0 : U 62 = V 62) (h1 : U 63 = V 63) (h2 : U 64 = V 64) (h3 : U 50 0 = 1) : dV x U := dV_k (fun k _ => by rw [h0]) h1 h2 (fun _ => h3) h
theorem D_movesNow {x : ST} {t : Int} {V : ASt} (hG : GOK (xG x)) (hs : SOK (xG x) (xS x)) (hF : qF (xG x) ≠ 0) (h : dIt x t V) :
    Tr (f_SG_movesNow S0 V 0) (fun r U => r = 50 ∧ dIt x t U ∧ U 50 0 = 1 ∧ MA (xG x) (xS x) 50 U ∧ (∀ a, (a < 50 ∨ 61 < a) → a ≠ t + 4 → a ≠ t + 15 → U a = V a)) := by
  have hm : isMv 50 := Or.inl rfl
  have h' := h
  obtain ⟨h0, h1, h2, h3, h4, h5, h6, -⟩ := h
  have ht := h0
  unfold isGm at ht
  unfold f_SG_movesNow
  rw [gd_t O_0, F_0_7, gd_t O_50]
  refine Tr_if (fun c => ?_) (fun c => ?_)
  · refine Tr_bnd (M_layOut hG hs hm h0 hF (Or.inr rfl) h2 h5.1) ?_
    rintro r U ⟨u1, u2, u3, u4, u5, u6, -⟩
    have hMA := MA_of hG u3 (u6 rfl)
    refine Tr_ret ⟨rfl, dIt_mv h' (fun a a1 a2 a3 => u5 a (by omega) a2 a3) u1 ⟨u2, Or.inr u4, fun _ => ⟨hF, hMA⟩, fun e => by omega⟩ (dV_mv h6 (u5 _ (by omega) (by omega) (by omega)) (u5 _ (by omega) (by omega) (by omega)) (u5 _ (by omega) (by omega) (by omega)) u4), u4, hMA, fun a a1 a2 a3 => u5 a (by omega) a2 a3⟩
  · have e1 : V 50 0 = 1 := by have := h5.2.1; omega
    exact Tr_ret ⟨rfl, h', e1, (h5.2.2.1 e1).2, fun _ _ _ _ => rfl⟩
/-- without a game there is nothing to lay -/
theorem D_movesNow0 {x : ST} {t : Int} {V : ASt} (hF : qF (xG x) = 0) (h : dIt x t V) : f_SG_movesNow S0 V 0 = some (50, V) ∧ ∀ p, 0 ≤ p → p < 200 → V 53 p = 0 := by
  have hm : isMv 50 := Or.inl rfl
  obtain ⟨h0, h1, h2, h3, h4, h5, h6, -⟩ := h
  have e0 : V 50 0 = 0 := by
    rcases h5.2.1 with e | e
    · exact e
    · exact absurd hF (h5.2.2.1 e).1
  refine ⟨?_, h5.2.2.2 e0⟩
  unfold f_SG_movesNow f_Moves_layOut
  rw [gd_t O_0, F_0_7, gd_t O_50, if_pos e0, gd_t (OM hm), h5.1.1, gd_t (OG h0), h2.1.1, if_pos hF, bnd_e]
theorem D_valuesNow {x : ST} {t : Int} {V : ASt} (hG : GOK (xG x)) (hs : SOK (xG x) (xS x)) (hF : qF (xG x) ≠ 0) (h : dIt x t V) :
    Tr (f_SG_valuesNow S0 V 0) (fun r U => r = 62 ∧ dIt x t U ∧ U 50 0 = 1 ∧ MA (xG x) (xS x) 50 U ∧ VA (xG x) (xS x) 63 U ∧ (∀ a, (a < 50 ∨ 72 < a) → a ≠ t + 4 → a ≠ t + 15 → U a = V a)) := by
  have hm : isMv 50 := Or.inl rfl
  have hv : isVl 62 50 63 := Or.inl ⟨rfl, rfl, rfl⟩
  have hq := qPos_le hG
  unfold f_SG_valuesNow
  rw [gd_t O_0, F_0_8, gd_t O_62]
  refine Tr_if (fun c => ?_) (fun c => ?_)
  · refine Tr_bnd (D_movesNow hG hs hF h) ?_
    rintro r U ⟨u1, u2, u3, u4, u5⟩
    rw [u1, gd_t O_50]
    have u2' := u2
    obtain ⟨h0, h1, h2, h3, h4, h5, h6, -⟩ := u2
    have ht := h0
    unfold isGm at ht
    refine Tr_bnd (M_listAll hG hm h0 h2.2.1 hF h5.1.1) ?_
    rintro r2 W ⟨w1, w2, w3, w4⟩
    have fW : ∀ a, (a < 50 ∨ 52 < a) → W a = U a := fun a ha => w3 a (by omega) (by omega) (by omega)
    have gW : gI (xG x) t W := gI_M hm h0 (fun a ha => fW a (by omega)) h2
    have mW : MA (xG x) (xS x) 50 W := MA_k (fun o a b => fW _ (by omega)) u4
    have LW : LDC (xG x) (xS x) 50 W (W 50 1) := ⟨w1, fun i i0 i1 => by
      have hi := w1.2.2.1 i i0 i1
      refine ⟨mW _ hi.1 hi.2.1, fun e he e0 => w2 e e0 ?_⟩
      rcases nx_r hG hi.1 he with z | z | z <;> omega⟩
    refine Tr_bnd (V_solve hG hs hv h0 gW.1 (by rw [w4 2 (by decide)]; exact h5.1.1) LW) ?_
    rintro r3 Z ⟨z1, z2, z3, z4, z5⟩
    have fZ : ∀ a, (a < 50 ∨ 72 < a) → a ≠ t + 4 → a ≠ t + 15 → Z a = V a := fun a a1 a2 a3 => by rw [z1 a (by omega) (by omega), fW a (by omega), u5 a (by omega) a2 a3]
    have hsub : ∀ p, 0 ≤ p ∧ p < qPos (xG x) → lP 50 W p := fun p hp => ⟨hp.1, by omega, w2 p hp.1 hp.2⟩
    have hVA : VA (xG x) (xS x) 63 Z := ⟨Sol_sub z4 hsub, fun q a b => z5 q (hsub q ⟨a, b⟩)⟩
    have fM : ∀ a, (50 ≤ a ∧ a ≤ 61) → Z a = W a := fun a ha => z1 a (by omega) (by omega)
    have e500 : Z 50 0 = 1 := by rw [fM 50 (by omega), w4 0 (by decide)]; exact u3
    have hMZ : MA (xG x) (xS x) 50 Z := MA_k (fun o a b => fM _ (by omega)) mW
    refine Tr_ret ⟨rfl, dIt_mv h fZ (gI_k (fun o a b => z1 _ (by omega) (by omega)) gW) ⟨dP_fr (by rw [fM 50 (by omega), w4 2 (by decide)]) (by rw [fM 50 (by omega), w4 14 (by decide)]) (fun o a b => by rw [fM _ (by omega), fW _ (by omega)]) h5.1, Or.inr e500, fun _ => ⟨hF, hMZ⟩, fun e => by omega⟩ ⟨Or.inr z3, fun _ => ⟨hVA, e500⟩, ?_⟩, e500, hMZ, hVA, fZ⟩
    have hcr := h6.2.2
    unfold chR at *
    rw [z2 11 (by decide) (by decide), z2 12 (by decide) (by decide), fW 62 (by omega)]; exact hcr
  · obtain ⟨h0, h1, h2, h3, h4, h5, h6, h7⟩ := h
    have e1 : V 62 0 = 1 := by have := h6.1; omega
    have hva := h6.2.1 e1
    exact Tr_ret ⟨rfl, ⟨h0, h1, h2, h3, h4, h5, h6, h7⟩, hva.2, (h5.2.2.1 hva.2).2, hva.1, fun _ _ _ _ => rfl⟩
theorem D_beginningNow {x : ST} {t : Int} {V : ASt} (hG : GOK (xG x)) (h : dIt x t V) : f_SG_beginningNow S0 V 0 = some (beg (xG x) (xN x 0), V) := by
  obtain ⟨h0, h1, h2, -⟩ := h
  have e : and32 (V 0 17) 1 = 0 ∨ and32 (V 0 17) 1 = 1 := by rw [and32_1]; omega
  unfold f_SG_beginningNow f_SG_starterNow
  rw [gd_t O_0, gd_t O_0, bnd_e, h1.1, gd_t (OG h0), G_beginningOf hG h0 h2.1 h2.2.1 e, bnd_e, and32_1, h1.2.2]
  unfold beg
  rw [show xN x 0 % 2 % 2 = xN x 0 % 2 by omega]
def frXt (V U : ASt) : Prop := frX V U
-- ---- answers
theorem D_fault {x : ST} {t : Int} {V : ASt} (h : dIt x t V) (w : Int) : f_SG_fault S0 V 0 w = some (sFault x w, V) := by
  obtain ⟨h0, h1, h2, h3, h4, h5, h6, h7, h8, h9, h10, h11, h12, h13, h14⟩ := h
  unfold f_SG_fault sFault
  rw [gd_t O_0, F_0_3, gd_t O_35, h14.1, h14.2.1, gd_t O_35]
  by_cases c : w = 0
  · rw [if_pos c, if_pos c]
  · rw [if_neg c, if_neg c]
    by_cases c2 : w = 1
    · rw [if_pos c2, if_pos c2]
    · rw [if_neg c2, if_neg c2]
theorem D_status {x : ST} {t : Int} {V : ASt} (h : dIt x t V) (w : Int) : f_SG_status S0 V 0 w = some (sStatus x w, V) := by
  obtain ⟨h0, h1, h2, h3, h4, h5, h6, h7, h8, h9, h10, h11, h12, h13, h14⟩ := h
  unfold f_SG_status sStatus
  rw [gd_t O_0]
  by_cases c : w < 0
  · rw [if_pos c, if_neg (by omega)]
  rw [if_neg c]
  by_cases c2 : 6 ≤ w
  · rw [if_pos c2, if_neg (by omega)]
  · rw [if_neg c2, if_pos (by omega), F_0_19, A_115, gd_in (by omega) (by omega), h14.2.2.2.2.2.2.1 w (by omega) (by omega)]
