/-! the class's calls that set -/
theorem dIt_sc {x x' : ST} {t : Int} {V U : ASt} (h : dIt x t V) (e1 : x'.1 = x.1) (e2 : x'.2.1 = x.2.1) (e3 : x'.2.2.2 = x.2.2.2) (hn : ∀ k, k = 1 ∨ k = 2 → xN x' k = xN x k)
    (hf : ∀ a, ((3 ≤ a ∧ a ≤ 34) ∨ (41 ≤ a ∧ a ≤ 45) ∨ (47 ≤ a ∧ a ≤ 72) ∨ (96 ≤ a ∧ a ≤ 107)) → U a = V a) (r1 : dA x' t U) (r11 : dMa x' U) (r12 : dTp x' U) (r13 : dIm x' U) (r14 : dMi x' U) : dIt x' t U := by
  obtain ⟨h0, h1, h2, h3, h4, h5, h6, h7, h8, h9, h10, h11, h12, h13, h14⟩ := h
  have eG : xG x' = xG x := e1
  have eS : xS x' = xS x := e2
  have eH : ∀ i, xH x' i = xH x i := fun i => by unfold xH; rw [e3]
  have n1 := hn 1 (by omega)
  have n2 := hn 2 (by omega)
  have ht := h0
  unfold isGm at ht
  have q2 : gI (xG x') t U := by rw [eG]; exact gI_k (fun o a b => hf _ (by omega)) h2
  have q3 : dL (xG x') t U := by rw [eG]; exact dL_k (hf _ (by omega)) h3
  have q4 : dS (xG x') (xS x') 41 U := by rw [eG, eS]; exact dS_fr (hf 41 (by omega)) (hf 42 (by omega)) h4
  have q5 : dM x' t U := by
    have := dM_k (U := U) (fun c a b => hf c (by omega)) h5
    unfold dM at *
    rw [eG, eS]; exact this
  have q6 : dV x' U := by
    have := dV_k (U := U) (fun k _ => congrFun (hf 62 (by omega)) k) (hf 63 (by omega)) (hf 64 (by omega)) (fun e => by rw [hf 50 (by omega)]; exact e) h6
    unfold dV at *
    rw [eG, eS]; exact this
  have q7 : dWW (xG x') t 96 U := by rw [eG]; exact dWW_k (hf 96 (by omega)) (hf 97 (by omega)) (hf 98 (by omega)) (hf 101 (by omega)) h7
  have q8 : dWW (xG x') t 102 U := by rw [eG]; exact dWW_k (hf 102 (by omega)) (hf 103 (by omega)) (hf 104 (by omega)) (hf 107 (by omega)) h8
  have q9 : dH x' U := by
    have := dH_k (U := U) (hf 47 (by omega)) (hf 48 (by omega)) (hf 49 (by omega)) h9
    unfold dH at *
    rw [eG, n1]
    refine ⟨this.1, fun i i0 i1 => ?_⟩
    have hi := this.2 i i0 i1
    rw [eH, eH, eS]; exact hi
  have q10 : dSp x' U := by
    have := dSp_k (U := U) (congrFun (hf 43 (by omega)) 0) (hf 44 (by omega)) (hf 45 (by omega)) h10
    unfold dSp at *
    rw [eG, n2, eH]; exact this
  exact ⟨h0, r1, q2, q3, q4, q5, q6, q7, q8, q9, q10, r11, r12, r13, r14⟩
theorem D_refuse {x : ST} {t : Int} {V : ASt} (h : dIt x t V) {k : Int} (hk : 0 ≤ k ∧ k ≤ 5) (hb : 0 ≤ xN x (20 + k) ∧ xN x (20 + k) ≤ 100000) : Tr (f_SG_refuse S0 V 0 k) (fun _ U => dIt (xRf x k) t U ∧ frX V U) := by
  have h' := h
  obtain ⟨h0, h1, h2, h3, h4, h5, h6, h7, h8, h9, h10, h11, h12, h13, h14⟩ := h
  unfold f_SG_refuse
  rw [gd_t O_0, if_neg (by omega), if_neg (by omega), F_0_19, A_115, gd_in (by omega) (by omega), h14.2.2.2.2.2.2.1 k hk.1 hk.2, w32_id (by omega) (by omega)]
  refine Tr_set (fun V1 e1 n1 => Tr_ret ⟨?_, fun a ha => n1 a (by omega)⟩)
  have m : ∀ j, j < 20 → xN (xRf x k) j = xN x j := fun j hj => uN_n x _ (by omega)
  refine dIt_sc h' rfl rfl rfl (fun j hj => m j (by omega)) (fun a ha => n1 a (by omega)) ?_ ?_ ?_ ?_ ?_
  · unfold dA at *; rw [n1 0 (by decide), m 0 (by decide)]; exact h1
  · unfold dMa at *; rw [n1 109 (by decide), m 3 (by decide), m 4 (by decide), m 5 (by decide)]; exact h11
  · unfold dTp at *; rw [n1 1 (by decide), n1 2 (by decide), m 6 (by decide)]; exact h12
  · unfold dIm at *; rw [n1 113 (by decide), n1 114 (by decide), m 9 (by decide)]; exact h13
  · unfold dMi at *
    rw [n1 35 (by decide), n1 112 (by decide), n1 111 (by decide), n1 108 (by decide), n1 37 (by decide), n1 6 (by decide), n1 22 (by decide), m 7 (by decide), m 8 (by decide), m 10 (by decide), m 11 (by decide), m 12 (by decide), m 13 (by decide)]
    refine ⟨h14.1, h14.2.1, h14.2.2.1, h14.2.2.2.1, h14.2.2.2.2.1, h14.2.2.2.2.2.1, fun j j0 j1 => ?_, h14.2.2.2.2.2.2.2⟩
    rw [e1]
    by_cases z : j = k
    · rw [z, upI_s]
      unfold xRf
      rw [uN_s]
    · rw [upI_n _ _ z]
      unfold xRf
      rw [uN_n x _ (by omega)]; exact h14.2.2.2.2.2.2.1 j j0 j1
theorem xAn_n {x : ST} {j : Int} (h3 : j ≠ 3) (h4 : j ≠ 4) (h5 : j ≠ 5) : xN (xAn x) j = xN x j := by unfold xAn; rw [uN_n _ _ h5, uN_n _ _ h4, uN_n _ _ h3]
theorem xAn_3 (x : ST) : xN (xAn x) 3 = beg (xG x) (xN x 0) := by unfold xAn; rw [uN_n _ _ (by decide), uN_n _ _ (by decide), uN_s]
theorem xAn_4 (x : ST) : xN (xAn x) 4 = 0 := by unfold xAn; rw [uN_n _ _ (by decide), uN_s]
theorem xAn_5 (x : ST) : xN (xAn x) 5 = -1 := by unfold xAn; rw [uN_s]
theorem Ma_begin {m : Int} (hm : m = 109 ∨ m = 110) (V : ASt) (p : Int) : Tr (f_Match_begin S0 V m p) (fun _ U => U m = upI (upI (upI (V m) 0 p) 1 0) 2 (-1) ∧ ∀ a, a ≠ m → U a = V a) := by
  have ho : isO S0 m 3 = true := by
    rcases hm with e | e <;> subst e
    · exact O_109
    · exact O_110
  unfold f_Match_begin
  rw [gd_t ho]
  refine Tr_set (fun V1 e1 n1 => ?_)
  refine Tr_set (fun V2 e2 n2 => ?_)
  refine Tr_set (fun V3 e3 n3 => Tr_ret ⟨by rw [e3, e2, e1], fun a ha => by rw [n3 a ha, n2 a ha, n1 a ha]⟩)
theorem D_anew {x : ST} {t : Int} {V : ASt} (hG : GOK (xG x)) (h : dIt x t V) : Tr (f_SG_anew S0 V 0) (fun r U => r = xN x 4 ∧ dIt (xAn x) t U ∧ frX V U) := by
  have h' := h
  obtain ⟨h0, h1, h2, h3, h4, h5, h6, h7, h8, h9, h10, h11, h12, h13, h14⟩ := h
  unfold f_SG_anew
  rw [gd_t O_0, F_0_13, gd_t O_109]
  refine Tr_bq (D_beginningNow hG h') ?_
  refine Tr_bnd (Ma_begin (Or.inl rfl) V (beg (xG x) (xN x 0))) ?_
  rintro r U ⟨u1, u2⟩
  refine Tr_ret ⟨h11.2.1, ?_, fun a ha => u2 a (by omega)⟩
  refine dIt_sc h' rfl rfl rfl (fun j hj => xAn_n (by omega) (by omega) (by omega)) (fun a ha => u2 a (by omega)) ?_ ?_ ?_ ?_ ?_
  · unfold dA at *; rw [u2 0 (by decide), xAn_n (by decide) (by decide) (by decide)]; exact h1
  · unfold dMa; rw [u1, xAn_3, xAn_4, xAn_5]; exact ⟨rfl, rfl, rfl⟩
  · unfold dTp at *; rw [u2 1 (by decide), u2 2 (by decide), xAn_n (by decide) (by decide) (by decide)]; exact h12
  · unfold dIm at *; rw [u2 113 (by decide), u2 114 (by decide), xAn_n (by decide) (by decide) (by decide)]; exact h13
  · unfold dMi at *
    rw [u2 35 (by decide), u2 112 (by decide), u2 111 (by decide), u2 115 (by decide), u2 108 (by decide), u2 37 (by decide), u2 6 (by decide), u2 22 (by decide), xAn_n (by decide) (by decide) (by decide), xAn_n (by decide) (by decide) (by decide), xAn_n (by decide) (by decide) (by decide), xAn_n (by decide) (by decide) (by decide), xAn_n (by decide) (by decide) (by decide), xAn_n (by decide) (by decide) (by decide)]
    exact ⟨h14.1, h14.2.1, h14.2.2.1, h14.2.2.2.1, h14.2.2.2.2.1, h14.2.2.2.2.2.1, fun j j0 j1 => by rw [xAn_n (by omega) (by omega) (by omega)]; exact h14.2.2.2.2.2.2.1 j j0 j1, h14.2.2.2.2.2.2.2⟩
/-- all of dIt but moves and values, which startAnew makes anew -/
def dIp (x : ST) (t : Int) (V : ASt) : Prop := isGm t ∧ dA x t V ∧ gI (xG x) t V ∧ dL (xG x) t V ∧ dS (xG x) (xS x) 41 V ∧ chR 62 63 V ∧ dWW (xG x) t 96 V ∧ dWW (xG x) t 102 V ∧ dH x V ∧ dSp x V ∧ dTp x V ∧ dIm x V ∧ dMi x V
theorem D_startAnew {x : ST} {t : Int} {V : ASt} (hG : GOK (xG x)) (hs : SOK (xG x) (xS x)) (h : dIp x t V) : Tr (f_SG_startAnew S0 V 0) (fun _ U => dIt (xAn x) t U ∧ frX V U) := by
  obtain ⟨h0, h1, h2, h3, h4, h6, h7, h8, h9, h10, h12, h13, h14⟩ := h
  have ht := h0
  unfold isGm at ht
  have hm : isMv 50 := Or.inl rfl
  unfold f_SG_startAnew
  rw [gd_t O_0, F_0_7, gd_t O_50, h1.1, F_0_4]
  refine Tr_bnd (M_prepare hG hs hm h0 (Or.inl rfl) h2.1 h4) ?_
  rintro r1 V1 ⟨p1, p2, p3, p4, f1⟩
  rw [F_0_8, gd_t O_62]
  refine Tr_set (fun V2 e2 n2 => ?_)
  have f2 : ∀ a, (a < 50 ∨ 62 < a) → V2 a = V a := fun a ha => by rw [n2 a (by omega), f1 a (by omega)]
  have g2 : gI (xG x) t V2 := gI_k (fun o a b => f2 _ (by omega)) h2
  have hbn : f_SG_beginningNow S0 V2 0 = some (beg (xG x) (xN x 0), V2) := by
    have e : and32 (V2 0 17) 1 = 0 ∨ and32 (V2 0 17) 1 = 1 := by rw [and32_1]; omega
    have c0 : V2 0 = V 0 := f2 0 (by omega)
    unfold f_SG_beginningNow f_SG_starterNow
    rw [gd_t O_0, gd_t O_0, bnd_e, c0, h1.1, gd_t (OG h0)]
    rw [c0] at e
    rw [G_beginningOf hG h0 g2.1 g2.2.1 e, bnd_e, and32_1, h1.2.2, beg_m]
  refine Tr_bq hbn ?_
  rw [F_0_13, gd_t O_109]
  refine Tr_bnd (Ma_begin (Or.inl rfl) V2 (beg (xG x) (xN x 0))) ?_
  rintro r U ⟨u1, u2⟩
  have fU : ∀ a, (a < 50 ∨ 62 < a) → a ≠ 109 → U a = V a := fun a a1 a2 => by rw [u2 a a2, f2 a a1]
  have f50 : ∀ a, 50 ≤ a → a ≤ 61 → U a = V1 a := fun a a1 a2 => by rw [u2 a (by omega), n2 a (by omega)]
  have e62 : U 62 = upI (V 62) 0 0 := by rw [u2 62 (by decide), e2, f1 62 (by omega)]
  refine Tr_ret ⟨⟨h0, ?_, gI_k (fun o a b => fU _ (by omega) (by omega)) h2, dL_k (fU _ (by omega) (by omega)) h3, dS_fr (fU 41 (by omega) (by omega)) (fU 42 (by omega) (by omega)) h4, ?_, ?_, dWW_k (fU 96 (by omega) (by omega)) (fU 97 (by omega) (by omega)) (fU 98 (by omega) (by omega)) (fU 101 (by omega) (by omega)) h7, dWW_k (fU 102 (by omega) (by omega)) (fU 103 (by omega) (by omega)) (fU 104 (by omega) (by omega)) (fU 107 (by omega) (by omega)) h8, ?_, ?_, ?_, ?_, ?_, ?_⟩, fun a ha => fU a (by omega) (by omega)⟩
  · unfold dA at *; rw [fU 0 (by omega) (by omega), xAn_n (by decide) (by decide) (by decide)]; exact h1
  · refine ⟨dP_fr (by rw [f50 50 (by omega) (by omega)]) (by rw [f50 50 (by omega) (by omega)]) (fun o a b => f50 _ (by omega) (by omega)) p1, Or.inl (by rw [f50 50 (by omega) (by omega)]; exact p2), fun e => ?_, fun _ p a b => ?_⟩
    · rw [f50 50 (by omega) (by omega), p2] at e
      exact absurd e (by decide)
    · rw [f50 53 (by omega) (by omega)]; exact p4 p a b
  · unfold dV chR at *
    rw [e62, upI_s, upI_n _ _ (by decide), upI_n _ _ (by decide)]
    exact ⟨Or.inl rfl, fun e => absurd e (by decide), h6⟩
  · have := dH_k (U := U) (fU 47 (by omega) (by omega)) (fU 48 (by omega) (by omega)) (fU 49 (by omega) (by omega)) h9
    unfold dH at *
    rw [xAn_n (by decide) (by decide) (by decide)]; exact this
  · have := dSp_k (U := U) (congrFun (fU 43 (by omega) (by omega)) 0) (fU 44 (by omega) (by omega)) (fU 45 (by omega) (by omega)) h10
    unfold dSp at *
    rw [xAn_n (by decide) (by decide) (by decide)]; exact this
  · unfold dMa; rw [u1, xAn_3, xAn_4, xAn_5]; exact ⟨rfl, rfl, rfl⟩
  · unfold dTp at *; rw [fU 1 (by omega) (by omega), fU 2 (by omega) (by omega), xAn_n (by decide) (by decide) (by decide)]; exact h12
  · unfold dIm at *; rw [fU 113 (by omega) (by omega), fU 114 (by omega) (by omega), xAn_n (by decide) (by decide) (by decide)]; exact h13
  · unfold dMi at *
    rw [fU 35 (by omega) (by omega), fU 112 (by omega) (by omega), fU 111 (by omega) (by omega), fU 115 (by omega) (by omega), fU 108 (by omega) (by omega), fU 37 (by omega) (by omega), fU 6 (by omega) (by omega), fU 22 (by omega) (by omega), xAn_n (by decide) (by decide) (by decide), xAn_n (by decide) (by decide) (by decide), xAn_n (by decide) (by decide) (by decide), xAn_n (by decide) (by decide) (by decide), xAn_n (by decide) (by decide) (by decide), xAn_n (by decide) (by decide) (by decide)]
    exact ⟨h14.1, h14.2.1, h14.2.2.1, h14.2.2.2.1, h14.2.2.2.2.1, h14.2.2.2.2.2.1, fun j j0 j1 => by rw [xAn_n (by omega) (by omega) (by omega)]; exact h14.2.2.2.2.2.2.1 j j0 j1, h14.2.2.2.2.2.2.2⟩
