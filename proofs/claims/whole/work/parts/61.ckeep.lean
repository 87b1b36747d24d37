/-! the class: what is set, changes made and undone, Sundays -/
theorem dIt_mi {x x' : ST} {t : Int} {V U : ASt} (h : dIt x t V) (e1 : x'.1 = x.1) (e2 : x'.2.1 = x.2.1) (e3 : x'.2.2.2 = x.2.2.2) (hn : ∀ k, k ≤ 6 ∨ k = 9 → xN x' k = xN x k) (hf : ∀ a, a < 108 → a ≠ 35 → U a = V a) (hf2 : ∀ a, a = 109 ∨ a = 113 ∨ a = 114 → U a = V a) (hm : dMi x' U) : dIt x' t U := by
  have h' := h
  obtain ⟨h0, h1, h2, h3, h4, h5, h6, h7, h8, h9, h10, h11, h12, h13, h14⟩ := h
  refine dIt_sc h' e1 e2 e3 (fun k hk => hn k (by omega)) (fun a ha => hf a (by omega) (by omega)) ?_ ?_ ?_ ?_ hm
  · unfold dA at *; rw [hf 0 (by decide) (by decide), hn 0 (by omega)]; exact h1
  · unfold dMa at *; rw [hf2 109 (by omega), hn 3 (by omega), hn 4 (by omega), hn 5 (by omega)]; exact h11
  · unfold dTp at *
    rw [hf 1 (by decide) (by decide), hf 2 (by decide) (by decide), hn 6 (by omega)]
    refine ⟨h12.1, fun i i0 i1 => ?_⟩
    have : xT x' i = xT x i := by unfold xT; rw [e3]
    rw [this]; exact h12.2 i i0 i1
  · unfold dIm at *
    rw [hf2 113 (by omega), hf2 114 (by omega), hn 9 (by omega)]
    refine ⟨h13.1, fun i i0 i1 => ?_⟩
    have : xI x' i = xI x i := by unfold xI; rw [e3]
    rw [this]; exact h13.2 i i0 i1
theorem D_errs {x : ST} {t : Int} {V : ASt} (h : dIt x t V) (hb : ∀ k, 20 ≤ k → k ≤ 25 → 0 ≤ xN x k ∧ xN x k ≤ 100000) (pl v : Int) : Tr (f_SG_errs S0 V 0 pl v) (fun r U => r = sErrs x pl v ∧ dIt (xErrs x pl v) t U ∧ frX V U) := by
  have h' := h
  obtain ⟨h0, h1, h2, h3, h4, h5, h6, h7, h8, h9, h10, h11, h12, h13, h14⟩ := h
  have hrf := D_refuse h' (k := 4) (by decide) (hb 24 (by decide) (by decide))
  have bad : ¬ ((0 ≤ pl ∧ pl ≤ 1) ∧ (0 ≤ v ∧ v ≤ 100)) → Tr (b_SG_errs_J17 S0 V 0) (fun r U => r = sErrs x pl v ∧ dIt (xErrs x pl v) t U ∧ frX V U) := by
    intro hn
    unfold b_SG_errs_J17 sErrs xErrs
    rw [if_neg hn, if_neg hn]
    exact Tr_bnd hrf (fun r U hU => Tr_ret ⟨rfl, hU⟩)
  unfold f_SG_errs f_SG_isPlayer
  rw [gd_t O_0]
  by_cases d : 0 ≤ pl ∧ pl ≤ 1
  · have hp : (if pl = 0 then some ((1 : Int), V) else if pl = 1 then some (1, V) else some (0, V)) = some (1, V) := by
      by_cases e : pl = 0
      · rw [if_pos e]
      · rw [if_neg e, if_pos (by omega)]
    refine Tr_bq hp (Tr_f (by decide) ?_)
    refine Tr_if (fun c => ?_) (fun c => ?_)
    · exact bad (by omega)
    refine Tr_if (fun c2 => ?_) (fun c2 => ?_)
    · have hok : (0 ≤ pl ∧ pl ≤ 1) ∧ (0 ≤ v ∧ v ≤ 100) := by omega
      unfold sErrs xErrs
      rw [if_pos hok, if_pos hok, F_0_15, A_111, gd_in (by omega) (by omega)]
      have hv : V 111 pl = xN x (12 + pl) := by
        have : pl = 0 ∨ pl = 1 := by omega
        rcases this with e | e <;> subst e
        · exact h14.2.2.2.2.1
        · exact h14.2.2.2.2.2.1
      refine Tr_set (fun V1 e1 n1 => Tr_ret ⟨hv, ?_, fun a ha => n1 a (by omega)⟩)
      have m : ∀ j, j ≠ 12 + pl → xN (uN x (12 + pl) v) j = xN x j := fun j hj => uN_n x _ hj
      refine dIt_mi h' rfl rfl rfl (fun k hk => m k (by omega)) (fun a a1 a2 => n1 a (by omega)) (fun a ha => n1 a (by omega)) ?_
      unfold dMi at *
      rw [n1 35 (by decide), n1 112 (by decide), n1 115 (by decide), n1 108 (by decide), n1 37 (by decide), n1 6 (by decide), n1 22 (by decide), e1, m 7 (by omega), m 8 (by omega), m 10 (by omega), m 11 (by omega)]
      refine ⟨h14.1, h14.2.1, h14.2.2.1, h14.2.2.2.1, ?_, ?_, fun j j0 j1 => by rw [m _ (by omega)]; exact h14.2.2.2.2.2.2.1 j j0 j1, h14.2.2.2.2.2.2.2⟩
      · by_cases z : pl = 0
        · subst z; rw [upI_s]; exact (uN_s x 12 v).symm
        · rw [upI_n _ _ (by omega), m 12 (by omega)]; exact h14.2.2.2.2.1
      · by_cases z : pl = 1
        · subst z; rw [upI_s]; exact (uN_s x 13 v).symm
        · rw [upI_n _ _ (by omega), m 13 (by omega)]; exact h14.2.2.2.2.2.1
    · exact bad (by omega)
  · have hp : (if pl = 0 then some ((1 : Int), V) else if pl = 1 then some (1, V) else some (0, V)) = some (0, V) := by rw [if_neg (by omega), if_neg (by omega)]
    exact Tr_bq hp (Tr_t rfl (bad (fun z => d z.1)))
theorem D_kind {x : ST} {t : Int} {V : ASt} (h : dIt x t V) (hb : ∀ k, 20 ≤ k → k ≤ 25 → 0 ≤ xN x k ∧ xN x k ≤ 100000) (pl v : Int) : Tr (f_SG_kind S0 V 0 pl v) (fun r U => r = sKind x pl v ∧ dIt (xKind x pl v) t U ∧ frX V U) := by
  have h' := h
  obtain ⟨h0, h1, h2, h3, h4, h5, h6, h7, h8, h9, h10, h11, h12, h13, h14⟩ := h
  have hrf := D_refuse h' (k := 4) (by decide) (hb 24 (by decide) (by decide))
  have bad : ¬ ((0 ≤ pl ∧ pl ≤ 1) ∧ (0 ≤ v ∧ v ≤ 2)) → Tr (b_SG_kind_J16 S0 V 0) (fun r U => r = sKind x pl v ∧ dIt (xKind x pl v) t U ∧ frX V U) := by
    intro hn
    unfold b_SG_kind_J16 sKind xKind
    rw [if_neg hn, if_neg hn]
    exact Tr_bnd hrf (fun r U hU => Tr_ret ⟨rfl, hU⟩)
  unfold f_SG_kind f_SG_isPlayer
  rw [gd_t O_0]
  by_cases d : 0 ≤ pl ∧ pl ≤ 1
  · have hp : (if pl = 0 then some ((1 : Int), V) else if pl = 1 then some (1, V) else some (0, V)) = some (1, V) := by
      by_cases e : pl = 0
      · rw [if_pos e]
      · rw [if_neg e, if_pos (by omega)]
    refine Tr_bq hp (Tr_f (by decide) ?_)
    refine Tr_if (fun c => ?_) (fun c => ?_)
    · exact bad (by omega)
    refine Tr_if (fun c2 => ?_) (fun c2 => ?_)
    · have hok : (0 ≤ pl ∧ pl ≤ 1) ∧ (0 ≤ v ∧ v ≤ 2) := by omega
      unfold sKind xKind
      rw [if_pos hok, if_pos hok, F_0_16, A_112, gd_in (by omega) (by omega)]
      have hv : V 112 pl = xN x (10 + pl) := by
        have : pl = 0 ∨ pl = 1 := by omega
        rcases this with e | e <;> subst e
        · exact h14.2.2.1
        · exact h14.2.2.2.1
      refine Tr_set (fun V1 e1 n1 => Tr_ret ⟨hv, ?_, fun a ha => n1 a (by omega)⟩)
      have m : ∀ j, j ≠ 10 + pl → xN (uN x (10 + pl) v) j = xN x j := fun j hj => uN_n x _ hj
      refine dIt_mi h' rfl rfl rfl (fun k hk => m k (by omega)) (fun a a1 a2 => n1 a (by omega)) (fun a ha => n1 a (by omega)) ?_
      unfold dMi at *
      rw [n1 35 (by decide), n1 111 (by decide), n1 115 (by decide), n1 108 (by decide), n1 37 (by decide), n1 6 (by decide), n1 22 (by decide), e1, m 7 (by omega), m 8 (by omega), m 12 (by omega), m 13 (by omega)]
      refine ⟨h14.1, h14.2.1, ?_, ?_, h14.2.2.2.2.1, h14.2.2.2.2.2.1, fun j j0 j1 => by rw [m _ (by omega)]; exact h14.2.2.2.2.2.2.1 j j0 j1, h14.2.2.2.2.2.2.2⟩
      · by_cases z : pl = 0
        · subst z; rw [upI_s]; exact (uN_s x 10 v).symm
        · rw [upI_n _ _ (by omega), m 10 (by omega)]; exact h14.2.2.1
      · by_cases z : pl = 1
        · subst z; rw [upI_s]; exact (uN_s x 11 v).symm
        · rw [upI_n _ _ (by omega), m 11 (by omega)]; exact h14.2.2.2.1
    · exact bad (by omega)
  · have hp : (if pl = 0 then some ((1 : Int), V) else if pl = 1 then some (1, V) else some (0, V)) = some (0, V) := by rw [if_neg (by omega), if_neg (by omega)]
    exact Tr_bq hp (Tr_t rfl (bad (fun z => d z.1)))
-- ---- history
def hRel (c bf R : Int) (s0 s1 : SL) : Prop := 0 ≤ c ∧ c < 6 * R ∧ (c % 6 = 5 → c / 6 + 1 < R) ∧ ∀ p, 0 ≤ p → p < R → pk s0 p = (if c % 6 = 5 then (if p = c / 6 then pk s1 (c / 6 + 1) else if p = c / 6 + 1 then pk s1 (c / 6) else pk s1 p) else (if p = c / 6 then bf else pk s1 p))
def nxH (x : ST) (i : Int) : SL := if i + 1 < xN x 1 then xH x (i + 1) else xS x
theorem dH_e (x : ST) (V : ASt) : dH x V = (V 47 0 = xN x 1 ∧ ∀ i, 0 ≤ i → i < xN x 1 → hRel (V 48 i) (V 49 i) (qR (xG x)) (xH x i) (nxH x i)) := rfl
theorem pk_app5 {G : GM} {s : SL} (hs : SOK G s) {c : Int} (hc : chg G s c = 1) (h5 : c % 6 = 5) {p : Int} (h0 : 0 ≤ p) (hp : p < qR G) : pk (app s c) p = if p = c / 6 then pk s (c / 6 + 1) else if p = c / 6 + 1 then pk s (c / 6) else pk s p := by
  rw [pk_app hs hc h0 hp, if_neg (show ¬ (c % 6 = 0) by omega), if_neg (show ¬ (c % 6 = 1) by omega), if_pos h5]
theorem pk_appn {G : GM} {s : SL} (hs : SOK G s) {c : Int} (hc : chg G s c = 1) (h5 : c % 6 ≠ 5) {p : Int} (h0 : 0 ≤ p) (hp : p < qR G) (hne : p ≠ c / 6) : pk (app s c) p = pk s p := by
  rw [pk_app hs hc h0 hp, if_neg hne, if_neg hne, if_neg hne, if_neg h5]
  by_cases a : c % 6 = 0
  · rw [if_pos a]
  · rw [if_neg a]
    by_cases b : c % 6 = 1
    · rw [if_pos b]
    · rw [if_neg b, if_neg hne]
theorem hRel_app {G : GM} {s : SL} (hs : SOK G s) {c : Int} (hc : chg G s c = 1) : hRel c (pk s (c / 6)) (qR G) s (app s c) := by
  have hr := chg_r hc
  refine ⟨hr.1, hr.2.1, hr.2.2, fun p h0 hp => ?_⟩
  by_cases h5 : c % 6 = 5
  · have := hr.2.2 h5
    rw [if_pos h5, pk_app5 hs hc h5 (p := c / 6 + 1) (by omega) (by omega), pk_app5 hs hc h5 (p := c / 6) (by omega) (by omega), pk_app5 hs hc h5 h0 hp, if_neg (show ¬ (c / 6 + 1 = c / 6) by omega), if_pos (show c / 6 + 1 = c / 6 + 1 from rfl), if_pos (show c / 6 = c / 6 from rfl)]
    by_cases a : p = c / 6
    · rw [if_pos a, a]
    · rw [if_neg a, if_neg a]
      by_cases b : p = c / 6 + 1
      · rw [if_pos b, b]
      · rw [if_neg b, if_neg b]
  · rw [if_neg h5]
    by_cases a : p = c / 6
    · rw [if_pos a, a]
    · rw [if_neg a, pk_appn hs hc h5 h0 hp a]
theorem D_apJ {x : ST} {V : ASt} {u c : Int} (hG : GOK (xG x)) (hs : SOK (xG x) (xS x)) (h4 : dS (xG x) (xS x) 41 V) (hu : 0 ≤ u ∧ u < 40) (h47 : V 47 0 = u) (hc : chg (xG x) (xS x) c = 1) : Tr (b_History_applyTo_J45 S0 V 47 41 c) (fun _ U => dS (xG x) (app (xS x) c) 41 U ∧ U 47 = upI (V 47) 0 (u + 1) ∧ U 48 = upI (V 48) u c ∧ U 49 = upI (V 49) u (pk (xS x) (c / 6)) ∧ ∀ b, b ≠ 42 → b ≠ 47 → b ≠ 48 → b ≠ 49 → U b = V b) := by
  have ha : isSl 41 := Or.inl rfl
  have hcr := chg_r hc
  have hR := hG.2.2.1
  unfold b_History_applyTo_J45
  rw [F_47_1, A_48, h47, gd_in (by omega) (by omega)]
  refine Tr_set (fun V1 e1 n1 => ?_)
  have s1 : dS (xG x) (xS x) 41 V1 := dS_fr (n1 41 (by decide)) (n1 _ (by decide)) h4
  rw [gd_t O_41, tdiv_e hcr.1, w32_id (x := c / 6) (by omega) (by omega)]
  refine Tr_bq (S_packedAt hG ha s1 (c / 6)) ?_
  rw [if_pos (show 0 ≤ c / 6 ∧ c / 6 < qR (xG x) by omega), F_47_2, A_49, n1 47 (by decide), h47, gd_in (by omega) (by omega)]
  refine Tr_set (fun V2 e2 n2 => ?_)
  rw [n2 47 (by decide), n1 47 (by decide), h47, w32_id (by omega) (by omega)]
  refine Tr_set (fun V3 e3 n3 => ?_)
  have s3 : dS (xG x) (xS x) 41 V3 := dS_fr (by rw [n3 41 (by decide), n2 41 (by decide)]) (by rw [n3 _ (by decide), n2 _ (by decide)]) s1
  refine Tr_bnd (S_apply hG hs ha s3 hc) ?_
  rintro r U ⟨u1, u2⟩
  refine Tr_ret ⟨u1, ?_, ?_, ?_, fun b b1 b2 b3 b4 => ?_⟩
  · rw [u2 47 (by decide), e3, n2 47 (by decide), n1 47 (by decide)]
  · rw [u2 48 (by decide), n3 48 (by decide), n2 48 (by decide), e1]
  · rw [u2 49 (by decide), n3 49 (by decide), e2, n1 49 (by decide)]
  · rw [u2 b (by omega), n3 b b2, n2 b b4, n1 b b3]
theorem D_applyTo {x : ST} {V : ASt} {c : Int} (hG : GOK (xG x)) (hs : SOK (xG x) (xS x)) (h1 : 0 ≤ xN x 1 ∧ xN x 1 ≤ 40) (h4 : dS (xG x) (xS x) 41 V) (h9 : dH x V) (hc : chg (xG x) (xS x) c = 1) : Tr (f_History_applyTo S0 V 47 41 c) (fun _ U => dS (xG x) (app (xS x) c) 41 U ∧ dH (uS (xKp x) (app (xS x) c)) U ∧ ∀ b, b ≠ 42 → b ≠ 47 → b ≠ 48 → b ≠ 49 → U b = V b) := by
  rw [dH_e] at h9
  have hnew := hRel_app hs hc
  unfold f_History_applyTo
  rw [gd_t O_47]
  refine Tr_if (fun e => ?_) (fun e => ?_)
  · have hx : xN x 1 ≠ 40 := by rw [← h9.1]; omega
    refine Tr_mono (D_apJ hG hs h4 (u := xN x 1) (by omega) h9.1 hc) ?_
    rintro r U ⟨u1, u2, u3, u4, u5⟩
    refine ⟨u1, ?_, u5⟩
    have en : xN (uS (xKp x) (app (xS x) c)) 1 = xN x 1 + 1 := by
      show xN (xKp x) 1 = _
      rw [xKp_1, if_neg hx]
    rw [dH_e, en]
    refine ⟨by rw [u2, upI_s], fun i i0 i1 => ?_⟩
    have eH : ∀ j, j ≤ xN x 1 → xH (uS (xKp x) (app (xS x) c)) j = if j = xN x 1 then xS x else xH x j := fun j _ => by
      show kpH x j = _
      unfold kpH
      rw [if_neg hx]
    have eN : nxH (uS (xKp x) (app (xS x) c)) i = if i = xN x 1 then app (xS x) c else nxH x i := by
      unfold nxH
      rw [en]
      by_cases z : i = xN x 1
      · rw [if_pos z, if_neg (by omega)]; rfl
      · rw [if_neg z, if_pos (by omega), eH (i + 1) (by omega)]
        by_cases y : i + 1 < xN x 1
        · rw [if_pos y, if_neg (by omega)]
        · rw [if_neg y, if_pos (by omega)]
    rw [eN, eH i (by omega), u3, u4]
    by_cases z : i = xN x 1
    · rw [if_pos z, if_pos z, z, upI_s, upI_s]; exact hnew
    · rw [if_neg z, if_neg z, upI_n _ _ z, upI_n _ _ z]; exact h9.2 i i0 (by omega)
  · have hx : xN x 1 = 40 := by rw [← h9.1] at h1 ⊢; omega
    have g8 : cpG S0 48 1 48 0 39 = true := by
      unfold cpG
      rw [O_48, L_48]; decide
    have g9 : cpG S0 49 1 49 0 39 = true := by
      unfold cpG
      rw [O_49, L_49]; decide
    rw [F_47_1, gd_t g8]
    refine Tr_wV (fun V1 e1 => ?_)
    rw [F_47_2, gd_t g9]
    refine Tr_wV (fun V2 e2 => ?_)
    refine Tr_set (fun V3 e3 n3 => ?_)
    have f3 : ∀ b, b ≠ 47 → b ≠ 48 → b ≠ 49 → V3 b = V b := fun b b1 b2 b3 => by rw [n3 b b1, e2, arow_n _ _ b3, e1, arow_n _ _ b2]
    have r8 : V3 48 = cpI (V 48) (V 48) 1 0 39 := by rw [n3 48 (by decide), e2, arow_n _ _ (by decide), e1, arow_s]
    have r9 : V3 49 = cpI (V 49) (V 49) 1 0 39 := by rw [n3 49 (by decide), e2, arow_s, e1, arow_n _ _ (by decide)]
    have s3 : dS (xG x) (xS x) 41 V3 := dS_fr (f3 41 (by decide) (by decide) (by decide)) (f3 _ (by decide) (by decide) (by decide)) h4
    refine Tr_mono (D_apJ hG hs s3 (u := 39) (by decide) (by rw [e3, upI_s]) hc) ?_
    rintro r U ⟨u1, u2, u3, u4, u5⟩
    refine ⟨u1, ?_, fun b b1 b2 b3 b4 => by rw [u5 b b1 b2 b3 b4, f3 b b2 b3 b4]⟩
    have en : xN (uS (xKp x) (app (xS x) c)) 1 = 40 := by
      show xN (xKp x) 1 = _
      rw [xKp_1, if_pos hx]
    rw [dH_e, en]
    refine ⟨by rw [u2, upI_s]; rfl, fun i i0 i1 => ?_⟩
    have eH : ∀ j, j ≤ 39 → xH (uS (xKp x) (app (xS x) c)) j = if j = 39 then xS x else xH x (j + 1) := fun j hj => by
      show kpH x j = _
      unfold kpH
      rw [if_pos hx]
      by_cases z : j = 39
      · rw [if_pos z, if_pos z]
      · rw [if_neg z, if_neg z, if_pos (by omega)]
    have eN : nxH (uS (xKp x) (app (xS x) c)) i = if i = 39 then app (xS x) c else nxH x (i + 1) := by
      unfold nxH
      rw [en, hx]
      by_cases z : i = 39
      · rw [if_pos z, if_neg (by omega)]; rfl
      · rw [if_neg z, if_pos (by omega), eH (i + 1) (by omega)]
        by_cases y : i + 1 = 39
        · rw [if_pos y, if_neg (by omega)]
        · rw [if_neg y, if_pos (by omega)]
    rw [eN, eH i (by omega), u3, u4]
    by_cases z : i = 39
    · rw [if_pos z, if_pos z, z, upI_s, upI_s]; exact hnew
    · rw [if_neg z, if_neg z, upI_n _ _ z, upI_n _ _ z, r8, r9]
      unfold cpI
      rw [if_pos (by omega), if_pos (by omega), show 1 + (i - 0) = i + 1 by omega]
      exact h9.2 (i + 1) (by omega) (by omega)
theorem S_swap {G : GM} {s : SL} {a c : Int} {V : ASt} (hG : GOK G) (ha : isSl a) (h : dS G s a V) (h5 : c % 6 = 5) (h0 : 0 ≤ c) (hr : c / 6 + 1 < qR G) : Tr (f_Slate_apply S0 V a c) (fun _ U => U (a + 1) = upI (upI (V (a + 1)) (c / 6) (pk s (c / 6 + 1))) (c / 6 + 1) (pk s (c / 6)) ∧ ∀ b, b ≠ a + 1 → U b = V b) := by
  have hR := hG.2.2.1
  unfold f_Slate_apply
  rw [gd_t (OS ha), tdiv_e h0, tmod_e h0, w32_id (x := c / 6) (by omega) (by omega), w32_id (x := c / 6 + 1) (by omega) (by omega)]
  refine Tr_bq (S_packedAt hG ha h (c / 6)) ?_
  rw [if_pos (show 0 ≤ c / 6 ∧ c / 6 < qR G by omega)]
  refine Tr_f (by omega) (Tr_f (by omega) (Tr_t h5 ?_))
  refine Tr_bq (S_packedAt hG ha h (c / 6 + 1)) ?_
  rw [if_pos (show 0 ≤ c / 6 + 1 ∧ c / 6 + 1 < qR G by omega)]
  refine Tr_bnd (S_setPacked hG ha h.1 (p := c / 6) (by omega) (by omega)) ?_
  rintro r U ⟨u1, u2⟩
  refine Tr_bnd (S_setPacked hG ha (V := U) (by rw [u2 a (by omega)]; exact h.1) (p := c / 6 + 1) (by omega) (by omega)) ?_
  rintro r2 W ⟨w1, w2⟩
  exact Tr_ret ⟨by rw [w1, u1], fun b hb => by rw [w2 b hb, u2 b hb]⟩
theorem D_takeBack {x : ST} {V : ASt} (hG : GOK (xG x)) (h1 : 0 < xN x 1 ∧ xN x 1 ≤ 40) (h4 : dS (xG x) (xS x) 41 V) (h9 : dH x V) : Tr (f_History_takeBackFrom S0 V 47 41) (fun _ U => dS (xG x) (xH x (xN x 1 - 1)) 41 U ∧ dH (uS (uN x 1 (xN x 1 - 1)) (xH x (xN x 1 - 1))) U ∧ ∀ b, b ≠ 42 → b ≠ 47 → U b = V b) := by
  have ha : isSl 41 := Or.inl rfl
  rw [dH_e] at h9
  obtain ⟨r0, r1, r5, rp⟩ := h9.2 (xN x 1 - 1) (by omega) (by omega)
  have eN : nxH x (xN x 1 - 1) = xS x := by unfold nxH; rw [if_neg (by omega)]
  rw [eN] at rp
  have fin : ∀ U : ASt, U 41 = V 41 → (∀ p, 0 ≤ p → p < qR (xG x) → U 42 p = pk (xH x (xN x 1 - 1)) p) → U 47 = upI (V 47) 0 (xN x 1 - 1) → U 48 = V 48 → U 49 = V 49 → dS (xG x) (xH x (xN x 1 - 1)) 41 U ∧ dH (uS (uN x 1 (xN x 1 - 1)) (xH x (xN x 1 - 1))) U := by
    intro U e41 e42 e47 e48 e49
    refine ⟨⟨by rw [e41]; exact h4.1, fun p p0 p1 => e42 p p0 p1⟩, ?_⟩
    have en : xN (uS (uN x 1 (xN x 1 - 1)) (xH x (xN x 1 - 1))) 1 = xN x 1 - 1 := uN_s x _ _
    rw [dH_e, en, e47, upI_s, e48, e49]
    refine ⟨rfl, fun i i0 i1 => ?_⟩
    have := h9.2 i i0 (by omega)
    have eX : nxH (uS (uN x 1 (xN x 1 - 1)) (xH x (xN x 1 - 1))) i = nxH x i := by
      unfold nxH
      rw [en, if_pos (show i + 1 < xN x 1 by omega)]
      by_cases z : i + 1 < xN x 1 - 1
      · rw [if_pos z]; rfl
      · rw [if_neg z, show i + 1 = xN x 1 - 1 by omega]; rfl
    rw [eX]; exact this
  unfold f_History_takeBackFrom
  rw [gd_t O_47, h9.1]
  refine Tr_f (by omega) (Tr_t (by omega) ?_)
  rw [w32_id (by omega) (by omega)]
  refine Tr_set (fun V1 e1 n1 => ?_)
  have s1 : dS (xG x) (xS x) 41 V1 := dS_fr (n1 41 (by decide)) (n1 _ (by decide)) h4
  have e47 : V1 47 0 = xN x 1 - 1 := by rw [e1, upI_s]
  rw [e47, F_47_1, A_48, gd_in (by omega) (by omega), n1 48 (by decide), tmod_e r0, tdiv_e r0]
  refine Tr_if (fun e => ?_) (fun e => ?_)
  · rw [gd_t O_41]
    refine Tr_bnd (S_swap hG ha s1 e r0 (r5 e)) ?_
    rintro r U ⟨u1, u2⟩
    have := fin U (by rw [u2 41 (by decide), n1 41 (by decide)]) (fun p p0 p1 => ?_) (by rw [u2 47 (by decide), e1]) (by rw [u2 48 (by decide), n1 48 (by decide)]) (by rw [u2 49 (by decide), n1 49 (by decide)])
    · exact Tr_ret ⟨this.1, this.2, fun b b1 b2 => by rw [u2 b (by omega), n1 b b2]⟩
    · rw [rp p p0 p1, if_pos e]
      show U (41 + 1) p = _
      rw [u1]
      by_cases a : p = V 48 (xN x 1 - 1) / 6
      · rw [if_pos a, a, upI_n _ _ (by omega), upI_s]
      · rw [if_neg a]
        by_cases b : p = V 48 (xN x 1 - 1) / 6 + 1
        · rw [if_pos b, b, upI_s]
        · rw [if_neg b, upI_n _ _ b, upI_n _ _ a]; exact s1.2 p p0 p1
  · rw [F_47_2, A_49, gd_in (by omega) (by omega), gd_t O_41, n1 49 (by decide), w32_id (by have := hG.2.2.1; omega) (by have := hG.2.2.1; omega)]
    refine Tr_bnd (S_setPacked hG ha s1.1 (p := V 48 (xN x 1 - 1) / 6) (x := V 49 (xN x 1 - 1)) (by omega) (by omega)) ?_
    rintro r U ⟨u1, u2⟩
    have := fin U (by rw [u2 41 (by decide), n1 41 (by decide)]) (fun p p0 p1 => ?_) (by rw [u2 47 (by decide), e1]) (by rw [u2 48 (by decide), n1 48 (by decide)]) (by rw [u2 49 (by decide), n1 49 (by decide)])
    · exact Tr_ret ⟨this.1, this.2, fun b b1 b2 => by rw [u2 b (by omega), n1 b b2]⟩
    · rw [rp p p0 p1, if_neg e]
      show U (41 + 1) p = _
      rw [u1]
      by_cases a : p = V 48 (xN x 1 - 1) / 6
      · rw [if_pos a, a, upI_s]
      · rw [if_neg a, upI_n _ _ a]; exact s1.2 p p0 p1
theorem dIp_of {x x' : ST} {t : Int} {V U : ASt} (h : dIt x t V) (e1 : x'.1 = x.1) (e4 : x'.2.2.2.2 = x.2.2.2.2) (hn : ∀ k, k = 2 ∨ 6 ≤ k → xN x' k = xN x k) (h40 : xH x' 40 = xH x 40) (hf : ∀ a, a ≠ 0 → a ≠ 42 → a ≠ 47 → a ≠ 48 → a ≠ 49 → U a = V a) (r1 : dA x' t U) (r4 : dS (xG x) (xS x') 41 U) (r9 : dH x' U) : dIp x' t U := by
  obtain ⟨h0, h1, h2, h3, h4, h5, h6, h7, h8, h9, h10, h11, h12, h13, h14⟩ := h
  have eG : xG x' = xG x := e1
  have eT : ∀ i, xT x' i = xT x i := fun i => by unfold xT; rw [e4]
  have eI : ∀ i, xI x' i = xI x i := fun i => by unfold xI; rw [e4]
  have ht := h0
  unfold isGm at ht
  refine ⟨h0, r1, ?_, ?_, by rw [eG]; exact r4, ?_, ?_, ?_, r9, ?_, ?_, ?_, ?_⟩
  · rw [eG]; exact gI_k (fun o a b => hf _ (by omega) (by omega) (by omega) (by omega) (by omega)) h2
  · rw [eG]; exact dL_k (hf _ (by omega) (by omega) (by omega) (by omega) (by omega)) h3
  · have := h6.2.2
    unfold chR at *
    rw [hf 62 (by decide) (by decide) (by decide) (by decide) (by decide)]; exact this
  · rw [eG]; exact dWW_k (hf 96 (by decide) (by decide) (by decide) (by decide) (by decide)) (hf 97 (by decide) (by decide) (by decide) (by decide) (by decide)) (hf 98 (by decide) (by decide) (by decide) (by decide) (by decide)) (hf 101 (by decide) (by decide) (by decide) (by decide) (by decide)) h7
  · rw [eG]; exact dWW_k (hf 102 (by decide) (by decide) (by decide) (by decide) (by decide)) (hf 103 (by decide) (by decide) (by decide) (by decide) (by decide)) (hf 104 (by decide) (by decide) (by decide) (by decide) (by decide)) (hf 107 (by decide) (by decide) (by decide) (by decide) (by decide)) h8
  · have := dSp_k (U := U) (congrFun (hf 43 (by decide) (by decide) (by decide) (by decide) (by decide)) 0) (hf 44 (by decide) (by decide) (by decide) (by decide) (by decide)) (hf 45 (by decide) (by decide) (by decide) (by decide) (by decide)) h10
    unfold dSp at *
    rw [eG, hn 2 (by omega), h40]; exact this
  · unfold dTp at *
    rw [hf 1 (by decide) (by decide) (by decide) (by decide) (by decide), hf 2 (by decide) (by decide) (by decide) (by decide) (by decide), hn 6 (by omega)]
    exact ⟨h12.1, fun i i0 i1 => by rw [eT]; exact h12.2 i i0 i1⟩
  · unfold dIm at *
    rw [hf 113 (by decide) (by decide) (by decide) (by decide) (by decide), hf 114 (by decide) (by decide) (by decide) (by decide) (by decide), hn 9 (by omega)]
    exact ⟨h13.1, fun i i0 i1 => by rw [eI]; exact h13.2 i i0 i1⟩
  · unfold dMi at *
    rw [hf 35 (by decide) (by decide) (by decide) (by decide) (by decide), hf 112 (by decide) (by decide) (by decide) (by decide) (by decide), hf 111 (by decide) (by decide) (by decide) (by decide) (by decide), hf 115 (by decide) (by decide) (by decide) (by decide) (by decide), hf 108 (by decide) (by decide) (by decide) (by decide) (by decide), hf 37 (by decide) (by decide) (by decide) (by decide) (by decide), hf 6 (by decide) (by decide) (by decide) (by decide) (by decide), hf 22 (by decide) (by decide) (by decide) (by decide) (by decide), hn 7 (by omega), hn 8 (by omega), hn 10 (by omega), hn 11 (by omega), hn 12 (by omega), hn 13 (by omega)]
    exact ⟨h14.1, h14.2.1, h14.2.2.1, h14.2.2.2.1, h14.2.2.2.2.1, h14.2.2.2.2.2.1, fun j j0 j1 => by rw [hn _ (by omega)]; exact h14.2.2.2.2.2.2.1 j j0 j1, h14.2.2.2.2.2.2.2⟩
theorem D_make {x : ST} {t : Int} {V : ASt} (hG : GOK (xG x)) (hs : SOK (xG x) (xS x)) (h : dIt x t V) (h1 : 0 ≤ xN x 1 ∧ xN x 1 ≤ 40) (hb : ∀ k, 20 ≤ k → k ≤ 25 → 0 ≤ xN x k ∧ xN x k ≤ 100000) (c : Int) : Tr (f_SG_make S0 V 0 c) (fun r U => r = sMake x c ∧ dIt (xMake x c) t U ∧ frX V U) := by
  have h' := h
  obtain ⟨h0, k1, h2, h3, h4, h5, h6, h7, h8, h9, -⟩ := h
  have ha : isSl 41 := Or.inl rfl
  have h01 := chg_01 (xG x) (xS x) c
  unfold f_SG_make sMake xMake
  rw [gd_t O_0, F_0_4, gd_t O_41, k1.1]
  refine Tr_bq (S_allows hG hs ha h4 h0 h2.1 c) ?_
  refine Tr_if (fun e => ?_) (fun e => ?_)
  · rw [if_neg (show ¬ (chg (xG x) (xS x) c = 1) by omega)]
    exact Tr_bnd (D_refuse h' (k := 3) (by decide) (hb 23 (by decide) (by decide))) (fun r U hU => Tr_ret ⟨e.symm, hU⟩)
  · have hc1 : chg (xG x) (xS x) c = 1 := by omega
    rw [if_pos hc1, F_0_6, gd_t O_47]
    refine Tr_bnd (D_applyTo hG hs h1 h4 h9 hc1) ?_
    rintro r U ⟨u1, u2, u3⟩
    have hp : dIp (uS (xKp x) (app (xS x) c)) t U := by
      refine dIp_of h' rfl rfl (fun k hk => xKp_n x (by omega)) ?_ (fun a a0 a1 a2 a3 a4 => u3 a a1 a2 a3 a4) ?_ u1 u2
      · show kpH x 40 = _
        unfold kpH
        by_cases z : xN x 1 = 40
        · rw [if_pos z, if_neg (by decide), if_neg (by decide)]
        · rw [if_neg z, if_neg (by omega)]
      · have e0 : xN (uS (xKp x) (app (xS x) c)) 0 = xN x 0 := xKp_n x (by decide)
        unfold dA at *
        rw [u3 0 (by decide) (by decide) (by decide) (by decide), e0]; exact k1
    refine Tr_bnd (D_startAnew (x := uS (xKp x) (app (xS x) c)) hG (app_ok hG hs hc1) hp) ?_
    rintro r2 W ⟨w1, w2⟩
    exact Tr_ret ⟨hc1.symm, w1, frX_tr (fun a ha => u3 a (by omega) (by omega) (by omega) (by omega)) w2⟩
theorem D_undo {x : ST} {t : Int} {V : ASt} (hG : GOK (xG x)) (h : dIt x t V) (h1 : 0 ≤ xN x 1 ∧ xN x 1 ≤ 40) (hH : ∀ i, 0 ≤ i → i < xN x 1 → SOK (xG x) (xH x i)) (hb : ∀ k, 20 ≤ k → k ≤ 25 → 0 ≤ xN x k ∧ xN x k ≤ 100000) : Tr (f_SG_undo S0 V 0) (fun r U => r = sUndo x ∧ dIt (xUndo x) t U ∧ frX V U) := by
  have h' := h
  obtain ⟨h0, k1, h2, h3, h4, h5, h6, h7, h8, h9, -⟩ := h
  unfold f_SG_undo sUndo xUndo
  rw [gd_t O_0, F_0_6, gd_t O_47, h9.1, F_0_4]
  refine Tr_if (fun e => ?_) (fun e => ?_)
  · rw [if_pos e, if_pos e]
    exact Tr_bnd (D_refuse h' (k := 3) (by decide) (hb 23 (by decide) (by decide))) (fun r U hU => Tr_ret ⟨rfl, hU⟩)
  · rw [if_neg e, if_neg e]
    refine Tr_bnd (D_takeBack hG (by omega) h4 h9) ?_
    rintro r U ⟨u1, u2, u3⟩
    have hp : dIp (uS (uN x 1 (xN x 1 - 1)) (xH x (xN x 1 - 1))) t U := by
      refine dIp_of h' rfl rfl (fun k hk => uN_n x _ (by omega)) rfl (fun a a0 a1 a2 a3 a4 => u3 a a1 a2) ?_ u1 u2
      have e0 : xN (uS (uN x 1 (xN x 1 - 1)) (xH x (xN x 1 - 1))) 0 = xN x 0 := uN_n x _ (by decide)
      unfold dA at *
      rw [u3 0 (by decide) (by decide), e0]; exact k1
    refine Tr_bnd (D_startAnew (x := uS (uN x 1 (xN x 1 - 1)) (xH x (xN x 1 - 1))) hG (hH _ (by omega) (by omega)) hp) ?_
    rintro r2 W ⟨w1, w2⟩
    exact Tr_ret ⟨rfl, w1, frX_tr (fun a ha => u3 a (by omega) (by omega)) w2⟩
theorem D_sunday {x : ST} {t : Int} {V : ASt} (hG : GOK (xG x)) (hs : SOK (xG x) (xS x)) (hn : SNM (xG x) (xS x)) (h : dIt x t V) (h1 : 0 ≤ xN x 1 ∧ xN x 1 ≤ 40) (h00 : 0 ≤ xN x 0 ∧ xN x 0 ≤ 100000) (hk : (0 ≤ xN x 10 ∧ xN x 10 ≤ 2) ∧ (0 ≤ xN x 11 ∧ xN x 11 ≤ 2)) : Tr (f_SG_sunday S0 V 0) (fun r U => r = sSunday x ∧ dIt (xSunday x) t U ∧ frX V U) := by
  have h' := h
  obtain ⟨h0, k1, h2, h3, h4, -⟩ := h
  have ha : isSl 41 := Or.inl rfl
  unfold f_SG_sunday sSunday xSunday
  rw [gd_t O_0, k1.1, gd_t (OG h0), h2.1.1]
  refine Tr_if (fun cf => ?_) (fun cf => ?_)
  · rw [if_pos cf, if_pos cf]; exact Tr_ret ⟨rfl, h', fun _ _ => rfl⟩
  rw [if_neg cf, if_neg cf, F_0_4]
  have hJ : ∀ (y : ST) (W Z : ASt), dIt x t Z → frX V Z → y = xSund x → (∀ b, b ≠ 42 → b ≠ 47 → b ≠ 48 → b ≠ 49 → W b = Z b) → dS (xG x) (xS y) 41 W → dH y W → xG y = xG x → SOK (xG x) (xS y) → y.2.2.2.2 = x.2.2.2.2 → (∀ k, k ≠ 1 → xN y k = xN x k) → xH y 40 = xH x 40 → Tr (b_SG_sunday_J62 S0 W 0 (cbS x)) (fun r U => r = cbS x ∧ dIt (xAn (uN (xSund x) 0 (xN x 0 + 1))) t U ∧ frX V U) := by
    intro y W Z hZ fZ ey fW s4 s9 eG sok e4 en e40
    have z1 := hZ.2.1
    have e0 : W 0 = Z 0 := fW 0 (by decide) (by decide) (by decide) (by decide)
    unfold b_SG_sunday_J62
    rw [e0, z1.2.2, w32_id (by omega) (by omega)]
    refine Tr_set (fun V1 e1 n1 => ?_)
    have hp : dIp (uN y 0 (xN x 0 + 1)) t V1 := by
      refine dIp_of hZ eG e4 (fun k hk => ?_) e40 (fun a a0 a1 a2 a3 a4 => by rw [n1 a a0, fW a a1 a2 a3 a4]) ?_ (dS_fr (n1 41 (by decide)) (n1 _ (by decide)) s4) ?_
      · rw [uN_n y _ (by omega)]; exact en k (by omega)
      · unfold dA at *
        rw [e1, e0, upI_s, uN_s, upI_n _ _ (by decide), upI_n _ _ (by decide)]
        exact ⟨z1.1, z1.2.1, rfl⟩
      · have := dH_k (n1 47 (by decide)) (n1 48 (by decide)) (n1 49 (by decide)) s9
        exact this
    refine Tr_bnd (D_startAnew (x := uN y 0 (xN x 0 + 1)) (by show GOK (xG y); rw [eG]; exact hG) (by show SOK (xG y) (xS y); rw [eG]; exact sok) hp) ?_
    rintro r2 U ⟨w1, w2⟩
    rw [ey] at w1
    exact Tr_ret ⟨rfl, w1, frX_tr fZ (frX_tr (fun a ha => by rw [n1 a (by omega), fW a (by omega) (by omega) (by omega) (by omega)]) w2)⟩
  refine Tr_bnd (D_worthsOf hG hs hn h' ha (by decide) h4) ?_
  rintro q U ⟨u1, u2⟩
  have hq : 0 ≤ q := by have := u1.2.1; unfold isWo at this; omega
  rw [gd_t (show nn q = true from decide_eq_true hq)]
  refine Tr_bq (D_starter u1.1) ?_
  rw [gd_t (OW u1.2.1)]
  have hvr := vR_of hG u1.2.1 u1.1.1 cf u1.1.2.2.1 u1.2.2 (c := -1) (j := xN x 0 % 2) (Or.inl rfl) (by omega)
  rw [show scS (xS x) (-1) = xS x from rfl, beg_m] at hvr
  unfold vR at hvr
  refine Tr_bnd (Q_loserOf hG cf u1 (j := xN x 0 % 2) (by omega)) ?_
  rintro lo W ⟨w1, w2, w3⟩
  refine Tr_bq (D_starter w2.1) ?_
  have est : w32 (1 - xN x 0 % 2) = (xN x 0 + 1) % 2 := by rw [w32_id (by omega) (by omega)]; omega
  rw [F_0_16, est]
  rw [beg_m] at w1
  have hlo : lo = -1 ∨ lo = 0 ∨ lo = 1 := by
    rw [w1]
    by_cases e : vW (xG x) (xS x) (beg (xG x) (xN x 0)) = 0
    · rw [if_pos e]; exact Or.inl rfl
    · rw [if_neg e]
      by_cases e2 : vW (xG x) (xS x) (beg (xG x) (xN x 0)) < 0
      · rw [if_pos e2]; omega
      · rw [if_neg e2]; omega
  refine Tr_bnd (Q_choiceOf hG cf hk w2 (pl := lo) (st := (xN x 0 + 1) % 2) (by omega) hlo) ?_
  rintro r Z ⟨z1, z2, z3⟩
  have ecb : r = cbS x := by
    rw [z1]
    unfold cbS
    by_cases e : vW (xG x) (xS x) (beg (xG x) (xN x 0)) = 0
    · rw [if_pos e]
      rw [if_pos e] at w1
      subst w1
      unfold choS kdF
      rw [if_pos rfl, if_pos rfl]
    · rw [if_neg e]
      rw [if_neg e] at w1
      by_cases e2 : vW (xG x) (xS x) (beg (xG x) (xN x 0)) = 1
      · rw [if_pos e2]
        rw [if_neg (by omega)] at w1
        rw [w1]; rfl
      · rw [if_neg e2]
        rw [if_pos (by omega)] at w1
        rw [w1]; rfl
  have fX : frX V Z := frQ_X h0 (frQ_tr u2 (frQ_tr w3 z3))
  have zz := z2.1
  obtain ⟨y0, y1, y2, y3, y4, y5, y6, y7, y8, y9, -⟩ := zz
  rw [ecb]
  refine Tr_if (fun e => ?_) (fun e => ?_)
  · have es : x = xSund x := by unfold xSund; rw [if_pos e]
    exact hJ x Z Z z2.1 fX es (fun _ _ _ _ _ => rfl) y4 y9 rfl hs rfl (fun _ _ => rfl) rfl
  · have hc1 : chg (xG x) (xS x) (cbS x) = 1 := by
      rcases cbS_ok x with z | z
      · exact absurd z e
      · exact z
    rw [F_0_6, gd_t O_47]
    refine Tr_bnd (D_applyTo hG hs h1 y4 y9 hc1) ?_
    rintro r2 Y ⟨v1, v2, v3⟩
    refine hJ (uS (xKp x) (app (xS x) (cbS x))) Y Z z2.1 fX (by unfold xSund; rw [if_neg e]) v3 v1 v2 rfl (app_ok hG hs hc1) rfl (fun k hk => xKp_n x hk) ?_
    show kpH x 40 = _
    unfold kpH
    by_cases z : xN x 1 = 40
    · rw [if_pos z, if_neg (by decide), if_neg (by decide)]
    · rw [if_neg z, if_neg (by omega)]
