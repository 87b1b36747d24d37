/-! the reference's calls that set -/
def uN (x : ST) (k v : Int) : ST := (x.1, x.2.1, upI x.2.2.1 k v, x.2.2.2)
def uH (x : ST) (h : Int → SL) : ST := (x.1, x.2.1, x.2.2.1, h, x.2.2.2.2)
theorem uN_s (x : ST) (k v : Int) : xN (uN x k v) k = v := upI_s _ _ _
theorem uN_n (x : ST) {k j : Int} (v : Int) (h : j ≠ k) : xN (uN x k v) j = xN x j := upI_n _ _ h
/-- U holds the state's single numbers -/
def rSc (x : ST) (U : ASt) : Prop := (U 142 48 = xN x 0 ∧ U 142 65 = xN x 1 ∧ U 142 72 = xN x 2 ∧ U 142 59 = xN x 3 ∧ U 142 60 = xN x 4 ∧ U 142 61 = xN x 5 ∧ U 142 1 = xN x 6 ∧ U 142 10 = xN x 7 ∧ U 142 11 = xN x 8 ∧ U 142 80 = xN x 9)
def rRo (x : ST) (U : ASt) : Prop := (U 173 0 = xN x 10 ∧ U 173 1 = xN x 11 ∧ U 174 0 = xN x 12 ∧ U 174 1 = xN x 13) ∧ (∀ k, 0 ≤ k → k ≤ 5 → U 166 k = xN x (20 + k))
theorem rI_sc {x x' : ST} {V U : ASt} (h : rI x V) (e1 : x'.1 = x.1) (e2 : x'.2.1 = x.2.1) (e3 : x'.2.2.2 = x.2.2.2) (hn : ∀ k, k = 1 ∨ k = 2 ∨ k = 6 ∨ k = 9 → xN x' k = xN x k) (hf : ∀ a, rK a → a ≠ 166 → a ≠ 173 → a ≠ 174 → U a = V a) (h12 : U 142 12 = V 142 12) (hs : rSc x' U) (hr : rRo x' U) : rI x' U := by
  obtain ⟨b, g1, g2, g3, g4, g5, g6, g7, g8, g9, g10, g11⟩ := h
  have eG : xG x' = xG x := e1
  have eS : xS x' = xS x := e2
  have eH : ∀ i, xH x' i = xH x i := fun i => by unfold xH; rw [e3]
  have eT : ∀ i, xT x' i = xT x i := fun i => by unfold xT; rw [e3]
  have eI : ∀ i, xI x' i = xI x i := fun i => by unfold xI; rw [e3]
  have n1 := hn 1 (by omega)
  have n2 := hn 2 (by omega)
  have n6 := hn 6 (by omega)
  have n9 := hn 9 (by omega)
  refine ⟨b, ?_, ?_, ?_, ?_, hs, hr.1, hr.2, ?_, ?_, ?_, ?_⟩
  · rw [eG]; exact rG_fr2 h12 (fun a a1 a2 => hf a (Or.inl ⟨a1, a2⟩) (by omega) (by omega) (by omega)) g1
  · rw [eG]; exact rT_fr (fun a a1 a2 => hf a (Or.inl ⟨by omega, a2⟩) (by omega) (by omega) (by omega)) g2
  · rw [eG]; unfold rL at *; rw [hf 146 (by unfold rK; omega) (by decide) (by decide) (by decide)]; exact g3
  · rw [eG, eS]; exact rS_fr (fun a a1 a2 => hf a (by unfold rK; omega) (by omega) (by omega) (by omega)) g4
  · rw [n6, hf 143 (by unfold rK; omega) (by decide) (by decide) (by decide)]
    intro i i0 i1
    rw [eT]; exact g8 i i0 i1
  · rw [n9, hf 197 (by unfold rK; omega) (by decide) (by decide) (by decide)]
    intro i i0 i1
    rw [eI]; exact g9 i i0 i1
  · rw [n1, eG, hf 185 (by unfold rK; omega) (by decide) (by decide) (by decide), hf 186 (by unfold rK; omega) (by decide) (by decide) (by decide), hf 187 (by unfold rK; omega) (by decide) (by decide) (by decide), hf 188 (by unfold rK; omega) (by decide) (by decide) (by decide)]
    intro i i0 i1 k k0 k1
    rw [eH]; exact g10 i i0 i1 k k0 k1
  · rw [n2, eG, eH, hf 191 (by unfold rK; omega) (by decide) (by decide) (by decide), hf 192 (by unfold rK; omega) (by decide) (by decide) (by decide), hf 186 (by unfold rK; omega) (by decide) (by decide) (by decide), hf 187 (by unfold rK; omega) (by decide) (by decide) (by decide)]
    exact g11
def xRf (x : ST) (k : Int) : ST := uN x (20 + k) (xN x (20 + k) + 1)
theorem R_refuses {x : ST} {V : ASt} (h : rI x V) {k : Int} (hk : 0 ≤ k ∧ k ≤ 5) (hb : 0 ≤ xN x (20 + k) ∧ xN x (20 + k) ≤ 100000) : Tr (f_M_refuses S0 V 142 k) (fun r U => r = -1 ∧ rI (xRf x k) U ∧ frM V U) := by
  have h' := h
  obtain ⟨b, g1, g2, g3, g4, g5, g6, g7, -⟩ := h
  unfold f_M_refuses
  rw [gd_t O_142, F_142_41, A_166, gd_in (by omega) (by omega), g7 k hk.1 hk.2, w32_id (by omega) (by omega)]
  refine Tr_set (fun V1 e1 n1 => Tr_ret ⟨rfl, ?_, fun a ha => n1 a (by omega)⟩)
  have m : ∀ j, j < 20 → xN (xRf x k) j = xN x j := fun j hj => uN_n x _ (by omega)
  refine rI_sc h' rfl rfl rfl (fun j hj => m j (by omega)) (fun a _ a2 _ _ => n1 a a2) (by rw [n1 142 (by decide)]) ?_ ⟨?_, fun j j0 j1 => ?_⟩
  · unfold rSc
    rw [n1 142 (by decide), m 0 (by decide), m 1 (by decide), m 2 (by decide), m 3 (by decide), m 4 (by decide), m 5 (by decide), m 6 (by decide), m 7 (by decide), m 8 (by decide), m 9 (by decide)]; exact g5
  · rw [n1 173 (by decide), n1 174 (by decide), m 10 (by decide), m 11 (by decide), m 12 (by decide), m 13 (by decide)]; exact g6
  · rw [e1]
    by_cases z : j = k
    · rw [z, upI_s]
      unfold xRf
      rw [uN_s]
    · rw [upI_n _ _ z]
      unfold xRf
      rw [uN_n x _ (by omega)]; exact g7 j j0 j1
def xAn (x : ST) : ST := uN (uN (uN x 3 (beg (xG x) (xN x 0))) 4 0) 5 (-1)
theorem R_anews {x : ST} {V : ASt} (hG : GOK (xG x)) (h : rI x V) (h0 : 0 ≤ xN x 0) (hz : qF (xG x) = 0 → xN x 0 = 0) : Tr (f_M_anews S0 V 142) (fun r U => r = xN x 4 ∧ rI (xAn x) U ∧ frM V U) := by
  have h' := h
  obtain ⟨b, g1, g2, g3, g4, g5, g6, g7, -⟩ := h
  have hJ : Tr (b_M_anews_J25 S0 V 142 (V 142 60) 142 (beg (xG x) (xN x 0))) (fun r U => r = xN x 4 ∧ rI (xAn x) U ∧ frM V U) := by
    unfold b_M_anews_J25
    rw [gd_t O_142]
    refine Tr_set (fun V1 e1 n1 => ?_)
    refine Tr_set (fun V2 e2 n2 => ?_)
    refine Tr_set (fun V3 e3 n3 => ?_)
    have rest : ∀ a, a ≠ 142 → V3 a = V a := fun a ha => by rw [n3 a ha, n2 a ha, n1 a ha]
    have em : V3 142 = upI (upI (upI (V 142) 59 (beg (xG x) (xN x 0))) 60 0) 61 (-1) := by rw [e3, e2, e1]
    have m : ∀ j, j ≠ 3 → j ≠ 4 → j ≠ 5 → xN (xAn x) j = xN x j := fun j j3 j4 j5 => by unfold xAn; rw [uN_n _ _ j5, uN_n _ _ j4, uN_n _ _ j3]
    have m3 : xN (xAn x) 3 = beg (xG x) (xN x 0) := by unfold xAn; rw [uN_n _ _ (by decide), uN_n _ _ (by decide), uN_s]
    have m4 : xN (xAn x) 4 = 0 := by unfold xAn; rw [uN_n _ _ (by decide), uN_s]
    have m5 : xN (xAn x) 5 = -1 := by unfold xAn; rw [uN_s]
    refine Tr_ret ⟨g5.2.2.2.2.1, rI_sc h' rfl rfl rfl (fun j hj => m j (by omega) (by omega) (by omega)) (fun a ha _ _ _ => rest a (by unfold rK at ha; omega)) ?_ ?_ ⟨?_, fun j j0 j1 => ?_⟩, fun a ha => rest a (by omega)⟩
    · rw [em, upI_n _ _ (by decide), upI_n _ _ (by decide), upI_n _ _ (by decide)]
    · unfold rSc
      rw [em, m3, m4, m5, m 0 (by decide) (by decide) (by decide), m 1 (by decide) (by decide) (by decide), m 2 (by decide) (by decide) (by decide), m 6 (by decide) (by decide) (by decide), m 7 (by decide) (by decide) (by decide), m 8 (by decide) (by decide) (by decide), m 9 (by decide) (by decide) (by decide)]
      exact ⟨g5.1, g5.2.1, g5.2.2.1, rfl, rfl, rfl, g5.2.2.2.2.2.2.1, g5.2.2.2.2.2.2.2.1, g5.2.2.2.2.2.2.2.2.1, g5.2.2.2.2.2.2.2.2.2⟩
    · rw [rest 173 (by decide), rest 174 (by decide), m 10 (by decide) (by decide) (by decide), m 11 (by decide) (by decide) (by decide), m 12 (by decide) (by decide) (by decide), m 13 (by decide) (by decide) (by decide)]; exact g6
    · rw [rest 166 (by decide), m _ (by omega) (by omega) (by omega)]; exact g7 j j0 j1
  unfold f_M_anews
  refine Tr_gd O_142 (Tr_bq (M_hasFields hG g1) ?_)
  by_cases c : qF (xG x) = 0
  · rw [if_pos c]
    have e0 : beg (xG x) (xN x 0) = 0 := by
      unfold beg
      rw [hz c, if_pos (hG.2.2.2.2.1 c).1]; rfl
    rw [e0] at hJ
    exact Tr_t rfl hJ
  · rw [if_neg c]
    refine Tr_f (by decide) ?_
    rw [g5.1]
    exact Tr_bq (M_beginning hG g1 h0) hJ
theorem R_anew {x : ST} {V : ASt} (hG : GOK (xG x)) (h : rI x V) (h0 : 0 ≤ xN x 0) (hz : qF (xG x) = 0 → xN x 0 = 0) : Tr (f_M_anew S0 V 142) (fun r U => r = xN x 4 ∧ rI (xAn x) U ∧ frM V U) := by
  unfold f_M_anew
  exact Tr_gd O_142 (Tr_bnd (R_anews hG h h0 hz) (fun r U hU => Tr_ret hU))
def sErrs (x : ST) (pl v : Int) : Int := if (0 ≤ pl ∧ pl ≤ 1) ∧ (0 ≤ v ∧ v ≤ 100) then xN x (12 + pl) else -1
def xErrs (x : ST) (pl v : Int) : ST := if (0 ≤ pl ∧ pl ≤ 1) ∧ (0 ≤ v ∧ v ≤ 100) then uN x (12 + pl) v else xRf x 4
theorem R_errs {x : ST} {V : ASt} (h : rI x V) (hb : ∀ k, 20 ≤ k → k ≤ 25 → 0 ≤ xN x k ∧ xN x k ≤ 100000) (pl v : Int) : Tr (f_M_errs S0 V 142 pl v) (fun r U => r = sErrs x pl v ∧ rI (xErrs x pl v) U ∧ frM V U) := by
  have h' := h
  obtain ⟨b, g1, g2, g3, g4, g5, g6, g7, -⟩ := h
  unfold f_M_errs sErrs xErrs b_M_errs_J19
  have hrf := R_refuses h' (k := 4) (by decide) (hb 24 (by decide) (by decide))
  refine Tr_gd O_142 (Tr_bq (M_is V pl 0 1) ?_)
  by_cases c : 0 ≤ pl ∧ pl ≤ 1
  · rw [if_pos c]
    refine Tr_f (by decide) (Tr_bq (M_is V v 0 100) ?_)
    by_cases d : 0 ≤ v ∧ v ≤ 100
    · rw [if_pos d, if_pos (show (0 ≤ pl ∧ pl ≤ 1) ∧ (0 ≤ v ∧ v ≤ 100) from ⟨c, d⟩), if_pos (show (0 ≤ pl ∧ pl ≤ 1) ∧ (0 ≤ v ∧ v ≤ 100) from ⟨c, d⟩)]
      refine Tr_f (by decide) ?_
      rw [F_142_50, A_174, gd_in (by omega) (by omega)]
      have hv : V 174 pl = xN x (12 + pl) := by
        have : pl = 0 ∨ pl = 1 := by omega
        rcases this with e | e <;> subst e
        · exact g6.2.2.1
        · exact g6.2.2.2
      refine Tr_set (fun V1 e1 n1 => Tr_ret ⟨hv, ?_, fun a ha => n1 a (by omega)⟩)
      have m : ∀ j, j ≠ 12 + pl → xN (uN x (12 + pl) v) j = xN x j := fun j hj => uN_n x _ hj
      refine rI_sc h' rfl rfl rfl (fun j hj => m j (by omega)) (fun a _ _ _ a4 => n1 a a4) (by rw [n1 142 (by decide)]) ?_ ⟨?_, fun j j0 j1 => ?_⟩
      · unfold rSc
        rw [n1 142 (by decide), m 0 (by omega), m 1 (by omega), m 2 (by omega), m 3 (by omega), m 4 (by omega), m 5 (by omega), m 6 (by omega), m 7 (by omega), m 8 (by omega), m 9 (by omega)]; exact g5
      · rw [n1 173 (by decide), e1, m 10 (by omega), m 11 (by omega)]
        have : pl = 0 ∨ pl = 1 := by omega
        rcases this with e | e <;> subst e
        · rw [upI_s, upI_n _ _ (by decide), m 13 (by decide)]
          exact ⟨g6.1, g6.2.1, (uN_s x 12 v).symm, g6.2.2.2⟩
        · rw [upI_s, upI_n _ _ (by decide), m 12 (by decide)]
          exact ⟨g6.1, g6.2.1, g6.2.2.1, (uN_s x 13 v).symm⟩
      · rw [n1 166 (by decide), m _ (by omega)]; exact g7 j j0 j1
    · rw [if_neg d, if_neg (fun z : (0 ≤ pl ∧ pl ≤ 1) ∧ (0 ≤ v ∧ v ≤ 100) => d z.2), if_neg (fun z : (0 ≤ pl ∧ pl ≤ 1) ∧ (0 ≤ v ∧ v ≤ 100) => d z.2)]
      exact Tr_t rfl (Tr_bnd hrf (fun r U hU => Tr_ret hU))
  · rw [if_neg c, if_neg (fun z : (0 ≤ pl ∧ pl ≤ 1) ∧ (0 ≤ v ∧ v ≤ 100) => c z.1), if_neg (fun z : (0 ≤ pl ∧ pl ≤ 1) ∧ (0 ≤ v ∧ v ≤ 100) => c z.1)]
    exact Tr_t rfl (Tr_bnd hrf (fun r U hU => Tr_ret hU))
def sKind (x : ST) (pl v : Int) : Int := if (0 ≤ pl ∧ pl ≤ 1) ∧ (0 ≤ v ∧ v ≤ 2) then xN x (10 + pl) else -1
def xKind (x : ST) (pl v : Int) : ST := if (0 ≤ pl ∧ pl ≤ 1) ∧ (0 ≤ v ∧ v ≤ 2) then uN x (10 + pl) v else xRf x 4
theorem R_kind {x : ST} {V : ASt} (h : rI x V) (hb : ∀ k, 20 ≤ k → k ≤ 25 → 0 ≤ xN x k ∧ xN x k ≤ 100000) (pl v : Int) : Tr (f_M_kind S0 V 142 pl v) (fun r U => r = sKind x pl v ∧ rI (xKind x pl v) U ∧ frM V U) := by
  have h' := h
  obtain ⟨b, g1, g2, g3, g4, g5, g6, g7, -⟩ := h
  unfold f_M_kind sKind xKind b_M_kind_J18
  have hrf := R_refuses h' (k := 4) (by decide) (hb 24 (by decide) (by decide))
  refine Tr_gd O_142 (Tr_bq (M_is V pl 0 1) ?_)
  by_cases c : 0 ≤ pl ∧ pl ≤ 1
  · rw [if_pos c]
    refine Tr_f (by decide) (Tr_bq (M_is V v 0 2) ?_)
    by_cases d : 0 ≤ v ∧ v ≤ 2
    · rw [if_pos d, if_pos (show (0 ≤ pl ∧ pl ≤ 1) ∧ (0 ≤ v ∧ v ≤ 2) from ⟨c, d⟩), if_pos (show (0 ≤ pl ∧ pl ≤ 1) ∧ (0 ≤ v ∧ v ≤ 2) from ⟨c, d⟩)]
      refine Tr_f (by decide) ?_
      rw [F_142_49, A_173, gd_in (by omega) (by omega)]
      have hv : V 173 pl = xN x (10 + pl) := by
        have : pl = 0 ∨ pl = 1 := by omega
        rcases this with e | e <;> subst e
        · exact g6.1
        · exact g6.2.1
      refine Tr_set (fun V1 e1 n1 => Tr_ret ⟨hv, ?_, fun a ha => n1 a (by omega)⟩)
      have m : ∀ j, j ≠ 10 + pl → xN (uN x (10 + pl) v) j = xN x j := fun j hj => uN_n x _ hj
      refine rI_sc h' rfl rfl rfl (fun j hj => m j (by omega)) (fun a _ _ a3 _ => n1 a a3) (by rw [n1 142 (by decide)]) ?_ ⟨?_, fun j j0 j1 => ?_⟩
      · unfold rSc
        rw [n1 142 (by decide), m 0 (by omega), m 1 (by omega), m 2 (by omega), m 3 (by omega), m 4 (by omega), m 5 (by omega), m 6 (by omega), m 7 (by omega), m 8 (by omega), m 9 (by omega)]; exact g5
      · rw [n1 174 (by decide), e1, m 12 (by omega), m 13 (by omega)]
        have : pl = 0 ∨ pl = 1 := by omega
        rcases this with e | e <;> subst e
        · rw [upI_s, upI_n _ _ (by decide), m 11 (by decide)]
          exact ⟨(uN_s x 10 v).symm, g6.2.1, g6.2.2.1, g6.2.2.2⟩
        · rw [upI_s, upI_n _ _ (by decide), m 10 (by decide)]
          exact ⟨g6.1, (uN_s x 11 v).symm, g6.2.2.1, g6.2.2.2⟩
      · rw [n1 166 (by decide), m _ (by omega)]; exact g7 j j0 j1
    · rw [if_neg d, if_neg (fun z : (0 ≤ pl ∧ pl ≤ 1) ∧ (0 ≤ v ∧ v ≤ 2) => d z.2), if_neg (fun z : (0 ≤ pl ∧ pl ≤ 1) ∧ (0 ≤ v ∧ v ≤ 2) => d z.2)]
      exact Tr_t rfl (Tr_bnd hrf (fun r U hU => Tr_ret hU))
  · rw [if_neg c, if_neg (fun z : (0 ≤ pl ∧ pl ≤ 1) ∧ (0 ≤ v ∧ v ≤ 2) => c z.1), if_neg (fun z : (0 ≤ pl ∧ pl ≤ 1) ∧ (0 ≤ v ∧ v ≤ 2) => c z.1)]
    exact Tr_t rfl (Tr_bnd hrf (fun r U hU => Tr_ret hU))
