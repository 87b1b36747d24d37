/-! the law's loop -/
theorem rI_X {x : ST} {V U : ASt} (h : rI x V) (f : frX V U) : rI x U := rI_fr (fun a ha => f a (by unfold rK at ha; omega)) (fun k _ => by rw [f 142 (by decide)]) h
theorem dI_M {x : ST} {V U : ASt} (h : dI x V) (f : ∀ a, a < 142 → U a = V a) : dI x U := by
  obtain ⟨t, h0, h1, h2, h3, h4, h5, h6, h7, h8, h9, h10, h11, h12, h13, h14⟩ := h
  have htr := gm_r h0
  exact ⟨t, h0, dA_k (f 0 (by decide)) h1, gI_k (fun o a b => f _ (by omega)) h2, dL_k (f _ (by omega)) h3, dS_fr (f 41 (by decide)) (f 42 (by decide)) h4, dM_k (fun c a b => f c (by omega)) h5, dV_k (fun k _ => by rw [f 62 (by decide)]) (f 63 (by decide)) (f 64 (by decide)) (fun e => by rw [f 50 (by decide)]; exact e) h6, dWW_k (f 96 (by decide)) (f 97 (by decide)) (f 98 (by decide)) (f 101 (by decide)) h7, dWW_k (f 102 (by decide)) (f 103 (by decide)) (f 104 (by decide)) (f 107 (by decide)) h8, dH_k (f 47 (by decide)) (f 48 (by decide)) (f 49 (by decide)) h9, dSp_k (by rw [f 43 (by decide)]) (f 44 (by decide)) (f 45 (by decide)) h10, dMa_k (f 109 (by decide)) h11, dTp_k (by rw [f 1 (by decide)]) (f 2 (by decide)) h12, dIm_k (by rw [f 113 (by decide)]) (f 114 (by decide)) h13, dMi_k (f 35 (by decide)) (f 108 (by decide)) (f 37 (by decide)) (f 6 (by decide)) (f 22 (by decide)) (f 111 (by decide)) (f 112 (by decide)) (f 115 (by decide)) h14⟩
theorem frX_rfl (V : ASt) : frX V V := fun _ _ => rfl
/-- what holds before each call -/
def lwI (B : Int) (V : ASt) : Prop := ∃ x, IV B x ∧ rI x V ∧ dI x V
/-- both sides have answered -/
theorem lw_fin {B : Int} {x' : ST} {r r' s : Int} {U W : ASt} {F : ASt → Option (Int × ASt)} {Q : Int → ASt → Prop} (hI : IV (B + 1) x') (e : r = s) (dU : dI x' U) (e' : r' = s) (rW : rI x' W) (fW : ∀ a, a < 142 → W a = U a) (hF : ∀ W, lwI (B + 1) W → Tr (F W) Q) : Tr (if r = r' then F W else some (0, W)) Q := Tr_t (by rw [e, e']) (hF W ⟨x', hI, rW, dI_M dU fW⟩)
theorem lw_0 {B L i : Int} {X : Int → Int} {V : ASt} {F : ASt → Option (Int × ASt)} {Q : Int → ASt → Prop} (hX : ∀ j, r32 (X j)) (hB : 0 ≤ B ∧ B ≤ 600) (hi : 0 ≤ i ∧ i + 6 ≤ L) (hL : L ≤ 3072) (h : lwI B V) (hF : ∀ W, lwI (B + 1) W → Tr (F W) Q) : Tr (gd (inS L (w32 (i + 1))) (gd (inS L (w32 (i + 2))) (gd (inS L (w32 (i + 3))) (gd (inS L (w32 (i + 4))) (gd (inS L (w32 (i + 5))) (gd (isO S0 0 12) (bnd (f_SG_feed S0 V 0 (X (w32 (i + 1))) (X (w32 (i + 2))) (X (w32 (i + 3))) (X (w32 (i + 4))) (X (w32 (i + 5)))) (fun r1 V1 => gd (inS L (w32 (i + 1))) (gd (inS L (w32 (i + 2))) (gd (inS L (w32 (i + 3))) (gd (inS L (w32 (i + 4))) (gd (inS L (w32 (i + 5))) (gd (isO S0 142 13) (bnd (f_M_feed S0 V1 142 (X (w32 (i + 1))) (X (w32 (i + 2))) (X (w32 (i + 3))) (X (w32 (i + 4))) (X (w32 (i + 5)))) (fun r2 V2 => if r1 = r2 then F V2 else some (0, V2)))))))))))))))) Q := by
  obtain ⟨x, hI, hr, hd⟩ := h
  have hI2 := hI
  obtain ⟨hG, hs, hn, i0, i1, i2, i3, i4, i5, i6, i9, i10, i11, i12, i13, i20, iH, iP, iT⟩ := hI2
  have hM : IV (B + 1) x := IV_mono hI (by omega)
  have b20 : 0 ≤ xN x 20 ∧ xN x 20 ≤ 100000 := by have := i20 20 (by decide) (by decide); omega
  obtain ⟨t, ht⟩ := hd
  rw [w32_id (x := i + 1) (by omega) (by omega), w32_id (x := i + 2) (by omega) (by omega), w32_id (x := i + 3) (by omega) (by omega), w32_id (x := i + 4) (by omega) (by omega), w32_id (x := i + 5) (by omega) (by omega), gd_in (by omega) (by omega), gd_in (by omega) (by omega), gd_in (by omega) (by omega), gd_in (by omega) (by omega), gd_in (by omega) (by omega), gd_t O_0]
  refine Tr_bnd (D_feed ht i1.2 (hX _) (hX _) (hX _) (hX _) (hX _) i6 b20) ?_
  rintro r1 U ⟨e1, dU, fU⟩
  have rU : rI x U := rI_X hr fU
  rw [gd_in (by omega) (by omega), gd_in (by omega) (by omega), gd_in (by omega) (by omega), gd_in (by omega) (by omega), gd_in (by omega) (by omega), gd_t O_142]
  refine Tr_bnd (R_feed rU (hX _) (hX _) (hX _) (hX _) (hX _) i6 b20) ?_
  rintro r2 W ⟨e2, rW, fW⟩
  exact lw_fin (IV_feed hI _ _ _ _ _) e1 ⟨t, dU⟩ e2 rW (fun a ha => fW a (Or.inl ha)) hF
theorem lw_1 {B L i : Int} {X : Int → Int} {V : ASt} {F : ASt → Option (Int × ASt)} {Q : Int → ASt → Prop} (hX : ∀ j, r32 (X j)) (hB : 0 ≤ B ∧ B ≤ 600) (hi : 0 ≤ i ∧ i + 6 ≤ L) (hL : L ≤ 3072) (h : lwI B V) (hF : ∀ W, lwI (B + 1) W → Tr (F W) Q) : Tr (gd (inS L (w32 (i + 1))) (gd (isO S0 0 12) (bnd (f_SG_end S0 V 0 (X (w32 (i + 1)))) (fun r1 V1 => gd (inS L (w32 (i + 1))) (gd (isO S0 142 13) (bnd (f_M_end S0 V1 142 (X (w32 (i + 1)))) (fun r2 V2 => if r1 = r2 then F V2 else some (0, V2)))))))) Q := by
  obtain ⟨x, hI, hr, hd⟩ := h
  have hI2 := hI
  obtain ⟨hG, hs, hn, i0, i1, i2, i3, i4, i5, i6, i9, i10, i11, i12, i13, i20, iH, iP, iT⟩ := hI2
  have hM : IV (B + 1) x := IV_mono hI (by omega)
  have b20 : 0 ≤ xN x 20 ∧ xN x 20 ≤ 100000 := by have := i20 20 (by decide) (by decide); omega
  obtain ⟨t, ht⟩ := hd
  rw [w32_id (x := i + 1) (by omega) (by omega), gd_in (by omega) (by omega), gd_t O_0]
  refine Tr_bnd (D_end ht i1.2 b20 _) ?_
  rintro r1 U ⟨e1, dU, fU⟩
  have rU : rI x U := rI_X hr fU
  rw [gd_in (by omega) (by omega), gd_t O_142]
  refine Tr_bnd (R_end rU b20 _) ?_
  rintro r2 W ⟨e2, rW, fW⟩
  exact lw_fin (IV_end hI _) e1 ⟨t, dU⟩ e2 rW (fun a ha => fW a (Or.inl ha)) hF
theorem lw_2 {B L i : Int} {X : Int → Int} {V : ASt} {F : ASt → Option (Int × ASt)} {Q : Int → ASt → Prop} (hX : ∀ j, r32 (X j)) (hB : 0 ≤ B ∧ B ≤ 600) (hi : 0 ≤ i ∧ i + 6 ≤ L) (hL : L ≤ 3072) (h : lwI B V) (hF : ∀ W, lwI (B + 1) W → Tr (F W) Q) : Tr (gd (isO S0 0 12) (bnd (f_SG_game S0 V 0) (fun r1 V1 => gd (isO S0 142 13) (bnd (f_M_game S0 V1 142) (fun r2 V2 => if r1 = r2 then F V2 else some (0, V2)))))) Q := by
  obtain ⟨x, hI, hr, hd⟩ := h
  have hI2 := hI
  obtain ⟨hG, hs, hn, i0, i1, i2, i3, i4, i5, i6, i9, i10, i11, i12, i13, i20, iH, iP, iT⟩ := hI2
  have hM : IV (B + 1) x := IV_mono hI (by omega)
  have b21 : 0 ≤ xN x 21 ∧ xN x 21 ≤ 100000 := by have := i20 21 (by decide) (by decide); omega
  obtain ⟨t, ht⟩ := hd
  rw [gd_t O_0]
  refine Tr_bnd (D_game ht i6 iT b21) ?_
  rintro r1 U ⟨e1, dU, fU⟩
  have rU : rI x U := rI_X hr fU
  rw [gd_t O_142]
  refine Tr_bnd (R_game hG rU i6 iT b21) ?_
  rintro r2 W ⟨e2, rW, fW⟩
  exact lw_fin (IV_game hI) e1 dU e2 rW (fun a ha => fW a (Or.inl ha)) hF
theorem lw_3 {B L i : Int} {X : Int → Int} {V : ASt} {F : ASt → Option (Int × ASt)} {Q : Int → ASt → Prop} (hX : ∀ j, r32 (X j)) (hB : 0 ≤ B ∧ B ≤ 600) (hi : 0 ≤ i ∧ i + 6 ≤ L) (hL : L ≤ 3072) (h : lwI B V) (hF : ∀ W, lwI (B + 1) W → Tr (F W) Q) : Tr (gd (inS L (w32 (i + 1))) (gd (isO S0 0 12) (bnd (f_SG_fault S0 V 0 (X (w32 (i + 1)))) (fun r1 V1 => gd (inS L (w32 (i + 1))) (gd (isO S0 142 13) (bnd (f_M_fault S0 V1 142 (X (w32 (i + 1)))) (fun r2 V2 => if r1 = r2 then F V2 else some (0, V2)))))))) Q := by
  obtain ⟨x, hI, hr, hd⟩ := h
  have hI2 := hI
  obtain ⟨hG, hs, hn, i0, i1, i2, i3, i4, i5, i6, i9, i10, i11, i12, i13, i20, iH, iP, iT⟩ := hI2
  have hM : IV (B + 1) x := IV_mono hI (by omega)
  obtain ⟨t, ht⟩ := hd
  rw [w32_id (x := i + 1) (by omega) (by omega), gd_in (by omega) (by omega), gd_t O_0]
  refine Tr_bq (D_fault ht _) ?_
  have rU : rI x V := hr
  rw [gd_in (by omega) (by omega), gd_t O_142]
  refine Tr_bq (R_fault rU _) ?_
  exact lw_fin (hM) rfl ⟨t, ht⟩ rfl rU (fun _ _ => rfl) hF
theorem lw_4 {B L i : Int} {X : Int → Int} {V : ASt} {F : ASt → Option (Int × ASt)} {Q : Int → ASt → Prop} (hX : ∀ j, r32 (X j)) (hB : 0 ≤ B ∧ B ≤ 600) (hi : 0 ≤ i ∧ i + 6 ≤ L) (hL : L ≤ 3072) (h : lwI B V) (hF : ∀ W, lwI (B + 1) W → Tr (F W) Q) : Tr (gd (inS L (w32 (i + 1))) (gd (isO S0 0 12) (bnd (f_SG_has S0 V 0 (X (w32 (i + 1)))) (fun r1 V1 => gd (inS L (w32 (i + 1))) (gd (isO S0 142 13) (bnd (f_M_has S0 V1 142 (X (w32 (i + 1)))) (fun r2 V2 => if r1 = r2 then F V2 else some (0, V2)))))))) Q := by
  obtain ⟨x, hI, hr, hd⟩ := h
  have hI2 := hI
  obtain ⟨hG, hs, hn, i0, i1, i2, i3, i4, i5, i6, i9, i10, i11, i12, i13, i20, iH, iP, iT⟩ := hI2
  have hM : IV (B + 1) x := IV_mono hI (by omega)
  obtain ⟨t, ht⟩ := hd
  rw [w32_id (x := i + 1) (by omega) (by omega), gd_in (by omega) (by omega), gd_t O_0]
  refine Tr_bq (D_has hG hs ht _) ?_
  have rU : rI x V := hr
  rw [gd_in (by omega) (by omega), gd_t O_142]
  refine Tr_bq (R_has hG hs rU _) ?_
  exact lw_fin (hM) rfl ⟨t, ht⟩ rfl rU (fun _ _ => rfl) hF
theorem lw_5 {B L i : Int} {X : Int → Int} {V : ASt} {F : ASt → Option (Int × ASt)} {Q : Int → ASt → Prop} (hX : ∀ j, r32 (X j)) (hB : 0 ≤ B ∧ B ≤ 600) (hi : 0 ≤ i ∧ i + 6 ≤ L) (hL : L ≤ 3072) (h : lwI B V) (hF : ∀ W, lwI (B + 1) W → Tr (F W) Q) : Tr (gd (inS L (w32 (i + 1))) (gd (inS L (w32 (i + 2))) (gd (isO S0 0 12) (bnd (f_SG_letter S0 V 0 (X (w32 (i + 1))) (X (w32 (i + 2)))) (fun r1 V1 => gd (inS L (w32 (i + 1))) (gd (inS L (w32 (i + 2))) (gd (isO S0 142 13) (bnd (f_M_letter S0 V1 142 (X (w32 (i + 1))) (X (w32 (i + 2)))) (fun r2 V2 => if r1 = r2 then F V2 else some (0, V2)))))))))) Q := by
  obtain ⟨x, hI, hr, hd⟩ := h
  have hI2 := hI
  obtain ⟨hG, hs, hn, i0, i1, i2, i3, i4, i5, i6, i9, i10, i11, i12, i13, i20, iH, iP, iT⟩ := hI2
  have hM : IV (B + 1) x := IV_mono hI (by omega)
  obtain ⟨t, ht⟩ := hd
  rw [w32_id (x := i + 1) (by omega) (by omega), w32_id (x := i + 2) (by omega) (by omega), gd_in (by omega) (by omega), gd_in (by omega) (by omega), gd_t O_0]
  refine Tr_bq (D_letter hG ht _ _) ?_
  have rU : rI x V := hr
  rw [gd_in (by omega) (by omega), gd_in (by omega) (by omega), gd_t O_142]
  refine Tr_bq (R_letter hG rU _ _) ?_
  exact lw_fin (hM) rfl ⟨t, ht⟩ rfl rU (fun _ _ => rfl) hF
theorem lw_6 {B L i : Int} {X : Int → Int} {V : ASt} {F : ASt → Option (Int × ASt)} {Q : Int → ASt → Prop} (hX : ∀ j, r32 (X j)) (hB : 0 ≤ B ∧ B ≤ 600) (hi : 0 ≤ i ∧ i + 6 ≤ L) (hL : L ≤ 3072) (h : lwI B V) (hF : ∀ W, lwI (B + 1) W → Tr (F W) Q) : Tr (gd (inS L (w32 (i + 1))) (gd (inS L (w32 (i + 2))) (gd (isO S0 0 12) (bnd (f_SG_rule S0 V 0 (X (w32 (i + 1))) (X (w32 (i + 2)))) (fun r1 V1 => gd (inS L (w32 (i + 1))) (gd (inS L (w32 (i + 2))) (gd (isO S0 142 13) (bnd (f_M_rule_II S0 V1 142 (X (w32 (i + 1))) (X (w32 (i + 2)))) (fun r2 V2 => if r1 = r2 then F V2 else some (0, V2)))))))))) Q := by
  obtain ⟨x, hI, hr, hd⟩ := h
  have hI2 := hI
  obtain ⟨hG, hs, hn, i0, i1, i2, i3, i4, i5, i6, i9, i10, i11, i12, i13, i20, iH, iP, iT⟩ := hI2
  have hM : IV (B + 1) x := IV_mono hI (by omega)
  obtain ⟨t, ht⟩ := hd
  rw [w32_id (x := i + 1) (by omega) (by omega), w32_id (x := i + 2) (by omega) (by omega), gd_in (by omega) (by omega), gd_in (by omega) (by omega), gd_t O_0]
  refine Tr_bq (D_rule hG hs ht _ _) ?_
  have rU : rI x V := hr
  rw [gd_in (by omega) (by omega), gd_in (by omega) (by omega), gd_t O_142]
  refine Tr_bq (R_rule hG hs rU _ _) ?_
  exact lw_fin (hM) rfl ⟨t, ht⟩ rfl rU (fun _ _ => rfl) hF
theorem lw_7 {B L i : Int} {X : Int → Int} {V : ASt} {F : ASt → Option (Int × ASt)} {Q : Int → ASt → Prop} (hX : ∀ j, r32 (X j)) (hB : 0 ≤ B ∧ B ≤ 600) (hi : 0 ≤ i ∧ i + 6 ≤ L) (hL : L ≤ 3072) (h : lwI B V) (hF : ∀ W, lwI (B + 1) W → Tr (F W) Q) : Tr (gd (inS L (w32 (i + 1))) (gd (inS L (w32 (i + 2))) (gd (isO S0 0 12) (bnd (f_SG_lawful S0 V 0 (X (w32 (i + 1))) (X (w32 (i + 2)))) (fun r1 V1 => gd (inS L (w32 (i + 1))) (gd (inS L (w32 (i + 2))) (gd (isO S0 142 13) (bnd (f_M_lawful S0 V1 142 (X (w32 (i + 1))) (X (w32 (i + 2)))) (fun r2 V2 => if r1 = r2 then F V2 else some (0, V2)))))))))) Q := by
  obtain ⟨x, hI, hr, hd⟩ := h
  have hI2 := hI
  obtain ⟨hG, hs, hn, i0, i1, i2, i3, i4, i5, i6, i9, i10, i11, i12, i13, i20, iH, iP, iT⟩ := hI2
  have hM : IV (B + 1) x := IV_mono hI (by omega)
  obtain ⟨t, ht⟩ := hd
  rw [w32_id (x := i + 1) (by omega) (by omega), w32_id (x := i + 2) (by omega) (by omega), gd_in (by omega) (by omega), gd_in (by omega) (by omega), gd_t O_0]
  refine Tr_bnd (D_lawful hG hs ht _ _) ?_
  rintro r1 U ⟨e1, dU, fU⟩
  have rU : rI x U := rI_X hr fU
  rw [gd_in (by omega) (by omega), gd_in (by omega) (by omega), gd_t O_142]
  refine Tr_bnd (R_lawful hG hs rU _ _) ?_
  rintro r2 W ⟨e2, rW, fW⟩
  exact lw_fin (hM) e1 ⟨t, dU⟩ e2 rW (fun a ha => fW a (Or.inl ha)) hF
theorem lw_8 {B L i : Int} {X : Int → Int} {V : ASt} {F : ASt → Option (Int × ASt)} {Q : Int → ASt → Prop} (hX : ∀ j, r32 (X j)) (hB : 0 ≤ B ∧ B ≤ 600) (hi : 0 ≤ i ∧ i + 6 ≤ L) (hL : L ≤ 3072) (h : lwI B V) (hF : ∀ W, lwI (B + 1) W → Tr (F W) Q) : Tr (gd (inS L (w32 (i + 1))) (gd (isO S0 0 12) (bnd (f_SG_played S0 V 0 (X (w32 (i + 1)))) (fun r1 V1 => gd (inS L (w32 (i + 1))) (gd (isO S0 142 13) (bnd (f_M_played S0 V1 142 (X (w32 (i + 1)))) (fun r2 V2 => if r1 = r2 then F V2 else some (0, V2)))))))) Q := by
  obtain ⟨x, hI, hr, hd⟩ := h
  have hI2 := hI
  obtain ⟨hG, hs, hn, i0, i1, i2, i3, i4, i5, i6, i9, i10, i11, i12, i13, i20, iH, iP, iT⟩ := hI2
  have hM : IV (B + 1) x := IV_mono hI (by omega)
  have hp : 0 ≤ xN x 3 ∧ xN x 3 < qPos (xG x) := ⟨i3.1, i3.2.1⟩
  obtain ⟨t, ht⟩ := hd
  rw [w32_id (x := i + 1) (by omega) (by omega), gd_in (by omega) (by omega), gd_t O_0]
  refine Tr_bnd (D_played hG hs ht hp _) ?_
  rintro r1 U ⟨e1, dU, fU⟩
  have rU : rI x U := rI_X hr fU
  rw [gd_in (by omega) (by omega), gd_t O_142]
  refine Tr_bnd (R_played hG hs rU hp _) ?_
  rintro r2 W ⟨e2, rW, fW⟩
  exact lw_fin (hM) e1 ⟨t, dU⟩ e2 rW (fun a ha => fW a (Or.inl ha)) hF
theorem lw_9 {B L i : Int} {X : Int → Int} {V : ASt} {F : ASt → Option (Int × ASt)} {Q : Int → ASt → Prop} (hX : ∀ j, r32 (X j)) (hB : 0 ≤ B ∧ B ≤ 600) (hi : 0 ≤ i ∧ i + 6 ≤ L) (hL : L ≤ 3072) (h : lwI B V) (hF : ∀ W, lwI (B + 1) W → Tr (F W) Q) : Tr (gd (inS L (w32 (i + 1))) (gd (inS L (w32 (i + 2))) (gd (isO S0 0 12) (bnd (f_SG_move S0 V 0 (X (w32 (i + 1))) (X (w32 (i + 2)))) (fun r1 V1 => gd (inS L (w32 (i + 1))) (gd (inS L (w32 (i + 2))) (gd (isO S0 142 13) (bnd (f_M_move S0 V1 142 (X (w32 (i + 1))) (X (w32 (i + 2)))) (fun r2 V2 => if r1 = r2 then F V2 else some (0, V2)))))))))) Q := by
  obtain ⟨x, hI, hr, hd⟩ := h
  have hI2 := hI
  obtain ⟨hG, hs, hn, i0, i1, i2, i3, i4, i5, i6, i9, i10, i11, i12, i13, i20, iH, iP, iT⟩ := hI2
  have hM : IV (B + 1) x := IV_mono hI (by omega)
  have hb : ∀ k, 20 ≤ k → k ≤ 25 → 0 ≤ xN x k ∧ xN x k ≤ 100000 := fun k k0 k1 => by have := i20 k k0 k1; omega
  have hp : 0 ≤ xN x 3 ∧ xN x 3 < qPos (xG x) := ⟨i3.1, i3.2.1⟩
  have b4 : 0 ≤ xN x 4 ∧ xN x 4 ≤ 100000 := by omega
  obtain ⟨t, ht⟩ := hd
  rw [w32_id (x := i + 1) (by omega) (by omega), w32_id (x := i + 2) (by omega) (by omega), gd_in (by omega) (by omega), gd_in (by omega) (by omega), gd_t O_0]
  refine Tr_bnd (D_move hG hs ht hp b4 hb _ _) ?_
  rintro r1 U ⟨e1, dU, fU⟩
  have rU : rI x U := rI_X hr fU
  rw [gd_in (by omega) (by omega), gd_in (by omega) (by omega), gd_t O_142]
  refine Tr_bnd (R_move hG hs rU hp b4 hb _ _) ?_
  rintro r2 W ⟨e2, rW, fW⟩
  exact lw_fin (IV_move hI _ _) e1 ⟨t, dU⟩ e2 rW (fun a ha => fW a (Or.inl ha)) hF
theorem lw_10 {B L i : Int} {X : Int → Int} {V : ASt} {F : ASt → Option (Int × ASt)} {Q : Int → ASt → Prop} (hX : ∀ j, r32 (X j)) (hB : 0 ≤ B ∧ B ≤ 600) (hi : 0 ≤ i ∧ i + 6 ≤ L) (hL : L ≤ 3072) (h : lwI B V) (hF : ∀ W, lwI (B + 1) W → Tr (F W) Q) : Tr (gd (isO S0 0 12) (bnd (f_SG_anew S0 V 0) (fun r1 V1 => gd (isO S0 142 13) (bnd (f_M_anew S0 V1 142) (fun r2 V2 => if r1 = r2 then F V2 else some (0, V2)))))) Q := by
  obtain ⟨x, hI, hr, hd⟩ := h
  have hI2 := hI
  obtain ⟨hG, hs, hn, i0, i1, i2, i3, i4, i5, i6, i9, i10, i11, i12, i13, i20, iH, iP, iT⟩ := hI2
  have hM : IV (B + 1) x := IV_mono hI (by omega)
  obtain ⟨t, ht⟩ := hd
  rw [gd_t O_0]
  refine Tr_bnd (D_anew hG ht) ?_
  rintro r1 U ⟨e1, dU, fU⟩
  have rU : rI x U := rI_X hr fU
  rw [gd_t O_142]
  refine Tr_bnd (R_anew hG rU i0.1 i0.2.2) ?_
  rintro r2 W ⟨e2, rW, fW⟩
  exact lw_fin (IV_mono (IV_an hI) (by omega)) e1 ⟨t, dU⟩ e2 rW (fun a ha => fW a (Or.inl ha)) hF
theorem lw_11 {B L i : Int} {X : Int → Int} {V : ASt} {F : ASt → Option (Int × ASt)} {Q : Int → ASt → Prop} (hX : ∀ j, r32 (X j)) (hB : 0 ≤ B ∧ B ≤ 600) (hi : 0 ≤ i ∧ i + 6 ≤ L) (hL : L ≤ 3072) (h : lwI B V) (hF : ∀ W, lwI (B + 1) W → Tr (F W) Q) : Tr (gd (inS L (w32 (i + 1))) (gd (inS L (w32 (i + 2))) (gd (isO S0 0 12) (bnd (f_SG_value S0 V 0 (X (w32 (i + 1))) (X (w32 (i + 2)))) (fun r1 V1 => gd (inS L (w32 (i + 1))) (gd (inS L (w32 (i + 2))) (gd (isO S0 142 13) (bnd (f_M_value S0 V1 142 (X (w32 (i + 1))) (X (w32 (i + 2)))) (fun r2 V2 => if r1 = r2 then F V2 else some (0, V2)))))))))) Q := by
  obtain ⟨x, hI, hr, hd⟩ := h
  have hI2 := hI
  obtain ⟨hG, hs, hn, i0, i1, i2, i3, i4, i5, i6, i9, i10, i11, i12, i13, i20, iH, iP, iT⟩ := hI2
  have hM : IV (B + 1) x := IV_mono hI (by omega)
  obtain ⟨t, ht⟩ := hd
  rw [w32_id (x := i + 1) (by omega) (by omega), w32_id (x := i + 2) (by omega) (by omega), gd_in (by omega) (by omega), gd_in (by omega) (by omega), gd_t O_0]
  refine Tr_bnd (D_value hG hs ht _ _) ?_
  rintro r1 U ⟨e1, dU, fU⟩
  have rU : rI x U := rI_X hr fU
  rw [gd_in (by omega) (by omega), gd_in (by omega) (by omega), gd_t O_142]
  refine Tr_bnd (R_value hG hs rU _ _) ?_
  rintro r2 W ⟨e2, rW, fW⟩
  exact lw_fin (hM) e1 ⟨t, dU⟩ e2 rW (fun a ha => fW a (Or.inl ha)) hF
theorem lw_12 {B L i : Int} {X : Int → Int} {V : ASt} {F : ASt → Option (Int × ASt)} {Q : Int → ASt → Prop} (hX : ∀ j, r32 (X j)) (hB : 0 ≤ B ∧ B ≤ 600) (hi : 0 ≤ i ∧ i + 6 ≤ L) (hL : L ≤ 3072) (h : lwI B V) (hF : ∀ W, lwI (B + 1) W → Tr (F W) Q) : Tr (gd (isO S0 0 12) (bnd (f_SG_worth S0 V 0) (fun r1 V1 => gd (isO S0 142 13) (bnd (f_M_worth S0 V1 142) (fun r2 V2 => if r1 = r2 then F V2 else some (0, V2)))))) Q := by
  obtain ⟨x, hI, hr, hd⟩ := h
  have hI2 := hI
  obtain ⟨hG, hs, hn, i0, i1, i2, i3, i4, i5, i6, i9, i10, i11, i12, i13, i20, iH, iP, iT⟩ := hI2
  have hM : IV (B + 1) x := IV_mono hI (by omega)
  obtain ⟨t, ht⟩ := hd
  rw [gd_t O_0]
  refine Tr_bnd (D_worth hG hs hn ht) ?_
  rintro r1 U ⟨e1, dU, fU⟩
  have rU : rI x U := rI_X hr fU
  rw [gd_t O_142]
  refine Tr_bnd (R_worth hG hs rU i0.1) ?_
  rintro r2 W ⟨e2, rW, fW⟩
  exact lw_fin (hM) e1 ⟨t, dU⟩ e2 rW (fun a ha => fW a (Or.inl ha)) hF
theorem lw_13 {B L i : Int} {X : Int → Int} {V : ASt} {F : ASt → Option (Int × ASt)} {Q : Int → ASt → Prop} (hX : ∀ j, r32 (X j)) (hB : 0 ≤ B ∧ B ≤ 600) (hi : 0 ≤ i ∧ i + 6 ≤ L) (hL : L ≤ 3072) (h : lwI B V) (hF : ∀ W, lwI (B + 1) W → Tr (F W) Q) : Tr (gd (isO S0 0 12) (bnd (f_SG_hat S0 V 0) (fun r1 V1 => gd (isO S0 142 13) (bnd (f_M_hat S0 V1 142) (fun r2 V2 => if r1 = r2 then F V2 else some (0, V2)))))) Q := by
  obtain ⟨x, hI, hr, hd⟩ := h
  have hI2 := hI
  obtain ⟨hG, hs, hn, i0, i1, i2, i3, i4, i5, i6, i9, i10, i11, i12, i13, i20, iH, iP, iT⟩ := hI2
  have hM : IV (B + 1) x := IV_mono hI (by omega)
  have hp : 0 ≤ xN x 3 ∧ xN x 3 < qPos (xG x) := ⟨i3.1, i3.2.1⟩
  obtain ⟨t, ht⟩ := hd
  rw [gd_t O_0]
  refine Tr_bnd (D_hat hG hs ht hp) ?_
  rintro r1 U ⟨e1, dU, fU⟩
  have rU : rI x U := rI_X hr fU
  rw [gd_t O_142]
  refine Tr_bnd (R_hat hG hs rU hp) ?_
  rintro r2 W ⟨e2, rW, fW⟩
  exact lw_fin (hM) e1 ⟨t, dU⟩ e2 rW (fun a ha => fW a (Or.inl ha)) hF
theorem lw_14 {B L i : Int} {X : Int → Int} {V : ASt} {F : ASt → Option (Int × ASt)} {Q : Int → ASt → Prop} (hX : ∀ j, r32 (X j)) (hB : 0 ≤ B ∧ B ≤ 600) (hi : 0 ≤ i ∧ i + 6 ≤ L) (hL : L ≤ 3072) (h : lwI B V) (hF : ∀ W, lwI (B + 1) W → Tr (F W) Q) : Tr (gd (isO S0 0 12) (bnd (f_SG_longest S0 V 0) (fun r1 V1 => gd (isO S0 142 13) (bnd (f_M_longest S0 V1 142) (fun r2 V2 => if r1 = r2 then F V2 else some (0, V2)))))) Q := by
  obtain ⟨x, hI, hr, hd⟩ := h
  have hI2 := hI
  obtain ⟨hG, hs, hn, i0, i1, i2, i3, i4, i5, i6, i9, i10, i11, i12, i13, i20, iH, iP, iT⟩ := hI2
  have hM : IV (B + 1) x := IV_mono hI (by omega)
  obtain ⟨t, ht⟩ := hd
  rw [gd_t O_0]
  refine Tr_bnd (D_longest hG hs ht) ?_
  rintro r1 U ⟨e1, dU, fU⟩
  have rU : rI x U := rI_X hr fU
  rw [gd_t O_142]
  refine Tr_bnd (R_longest' hG hs rU i0.1) ?_
  rintro r2 W ⟨e2, rW, fW⟩
  exact lw_fin (hM) e1 ⟨t, dU⟩ e2 rW (fun a ha => fW a (Or.inl ha)) hF
theorem lw_15 {B L i : Int} {X : Int → Int} {V : ASt} {F : ASt → Option (Int × ASt)} {Q : Int → ASt → Prop} (hX : ∀ j, r32 (X j)) (hB : 0 ≤ B ∧ B ≤ 600) (hi : 0 ≤ i ∧ i + 6 ≤ L) (hL : L ≤ 3072) (h : lwI B V) (hF : ∀ W, lwI (B + 1) W → Tr (F W) Q) : Tr (gd (isO S0 0 12) (bnd (f_SG_row S0 V 0) (fun r1 V1 => gd (isO S0 142 13) (bnd (f_M_row S0 V1 142) (fun r2 V2 => if r1 = r2 then F V2 else some (0, V2)))))) Q := by
  obtain ⟨x, hI, hr, hd⟩ := h
  have hI2 := hI
  obtain ⟨hG, hs, hn, i0, i1, i2, i3, i4, i5, i6, i9, i10, i11, i12, i13, i20, iH, iP, iT⟩ := hI2
  have hM : IV (B + 1) x := IV_mono hI (by omega)
  obtain ⟨t, ht⟩ := hd
  rw [gd_t O_0]
  refine Tr_bnd (D_row hG hs ht i1.2 i6 iT) ?_
  rintro r1 U ⟨e1, dU, fU⟩
  have rU : rI x U := rI_X hr fU
  rw [gd_t O_142]
  refine Tr_bnd (R_row hG hs rU i0.1 i6 iT) ?_
  rintro r2 W ⟨e2, rW, fW⟩
  exact lw_fin (IV_6 hM ⟨Int.le_refl 0, i6.1⟩) e1 ⟨t, dU⟩ e2 rW (fun a ha => fW a (Or.inl ha)) hF
theorem lw_16 {B L i : Int} {X : Int → Int} {V : ASt} {F : ASt → Option (Int × ASt)} {Q : Int → ASt → Prop} (hX : ∀ j, r32 (X j)) (hB : 0 ≤ B ∧ B ≤ 600) (hi : 0 ≤ i ∧ i + 6 ≤ L) (hL : L ≤ 3072) (h : lwI B V) (hF : ∀ W, lwI (B + 1) W → Tr (F W) Q) : Tr (gd (inS L (w32 (i + 1))) (gd (inS L (w32 (i + 2))) (gd (isO S0 0 12) (bnd (f_SG_errs S0 V 0 (X (w32 (i + 1))) (X (w32 (i + 2)))) (fun r1 V1 => gd (inS L (w32 (i + 1))) (gd (inS L (w32 (i + 2))) (gd (isO S0 142 13) (bnd (f_M_errs S0 V1 142 (X (w32 (i + 1))) (X (w32 (i + 2)))) (fun r2 V2 => if r1 = r2 then F V2 else some (0, V2)))))))))) Q := by
  obtain ⟨x, hI, hr, hd⟩ := h
  have hI2 := hI
  obtain ⟨hG, hs, hn, i0, i1, i2, i3, i4, i5, i6, i9, i10, i11, i12, i13, i20, iH, iP, iT⟩ := hI2
  have hM : IV (B + 1) x := IV_mono hI (by omega)
  have hb : ∀ k, 20 ≤ k → k ≤ 25 → 0 ≤ xN x k ∧ xN x k ≤ 100000 := fun k k0 k1 => by have := i20 k k0 k1; omega
  obtain ⟨t, ht⟩ := hd
  rw [w32_id (x := i + 1) (by omega) (by omega), w32_id (x := i + 2) (by omega) (by omega), gd_in (by omega) (by omega), gd_in (by omega) (by omega), gd_t O_0]
  refine Tr_bnd (D_errs ht hb _ _) ?_
  rintro r1 U ⟨e1, dU, fU⟩
  have rU : rI x U := rI_X hr fU
  rw [gd_in (by omega) (by omega), gd_in (by omega) (by omega), gd_t O_142]
  refine Tr_bnd (R_errs rU hb _ _) ?_
  rintro r2 W ⟨e2, rW, fW⟩
  exact lw_fin (IV_errs hI _ _) e1 ⟨t, dU⟩ e2 rW (fun a ha => fW a (Or.inl ha)) hF
theorem lw_17 {B L i : Int} {X : Int → Int} {V : ASt} {F : ASt → Option (Int × ASt)} {Q : Int → ASt → Prop} (hX : ∀ j, r32 (X j)) (hB : 0 ≤ B ∧ B ≤ 600) (hi : 0 ≤ i ∧ i + 6 ≤ L) (hL : L ≤ 3072) (h : lwI B V) (hF : ∀ W, lwI (B + 1) W → Tr (F W) Q) : Tr (gd (inS L (w32 (i + 1))) (gd (isO S0 0 12) (bnd (f_SG_likely S0 V 0 (X (w32 (i + 1)))) (fun r1 V1 => gd (inS L (w32 (i + 1))) (gd (isO S0 142 13) (bnd (f_M_likely S0 V1 142 (X (w32 (i + 1)))) (fun r2 V2 => if r1 = r2 then F V2 else some (0, V2)))))))) Q := by
  obtain ⟨x, hI, hr, hd⟩ := h
  have hI2 := hI
  obtain ⟨hG, hs, hn, i0, i1, i2, i3, i4, i5, i6, i9, i10, i11, i12, i13, i20, iH, iP, iT⟩ := hI2
  have hM : IV (B + 1) x := IV_mono hI (by omega)
  have he : ∀ j, 0 ≤ j → j ≤ 1 → 0 ≤ erF x j ∧ erF x j ≤ 100 := fun j j0 j1 => by
    unfold erF
    have hj : j = 0 ∨ j = 1 := by omega
    rcases hj with q0 | q0 <;> subst q0
    · exact i12
    · exact i13
  obtain ⟨t, ht⟩ := hd
  rw [w32_id (x := i + 1) (by omega) (by omega), gd_in (by omega) (by omega), gd_t O_0]
  refine Tr_bnd (D_likely hG hs ht he _) ?_
  rintro r1 U ⟨e1, dU, fU⟩
  have rU : rI x U := rI_X hr fU
  rw [gd_in (by omega) (by omega), gd_t O_142]
  refine Tr_bnd (R_likely hG hs rU i0.1 he _) ?_
  rintro r2 W ⟨e2, rW, fW⟩
  exact lw_fin (hM) e1 ⟨t, dU⟩ e2 rW (fun a ha => fW a (Or.inl ha)) hF
theorem lw_18 {B L i : Int} {X : Int → Int} {V : ASt} {F : ASt → Option (Int × ASt)} {Q : Int → ASt → Prop} (hX : ∀ j, r32 (X j)) (hB : 0 ≤ B ∧ B ≤ 600) (hi : 0 ≤ i ∧ i + 6 ≤ L) (hL : L ≤ 3072) (h : lwI B V) (hF : ∀ W, lwI (B + 1) W → Tr (F W) Q) : Tr (gd (inS L (w32 (i + 1))) (gd (isO S0 0 12) (bnd (f_SG_change S0 V 0 (X (w32 (i + 1)))) (fun r1 V1 => gd (inS L (w32 (i + 1))) (gd (isO S0 142 13) (bnd (f_M_change S0 V1 142 (X (w32 (i + 1)))) (fun r2 V2 => if r1 = r2 then F V2 else some (0, V2)))))))) Q := by
  obtain ⟨x, hI, hr, hd⟩ := h
  have hI2 := hI
  obtain ⟨hG, hs, hn, i0, i1, i2, i3, i4, i5, i6, i9, i10, i11, i12, i13, i20, iH, iP, iT⟩ := hI2
  have hM : IV (B + 1) x := IV_mono hI (by omega)
  obtain ⟨t, ht⟩ := hd
  rw [w32_id (x := i + 1) (by omega) (by omega), gd_in (by omega) (by omega), gd_t O_0]
  refine Tr_bq (D_change hG hs ht _) ?_
  have rU : rI x V := hr
  rw [gd_in (by omega) (by omega), gd_t O_142]
  refine Tr_bq (R_change hG hs rU _) ?_
  exact lw_fin (hM) rfl ⟨t, ht⟩ rfl rU (fun _ _ => rfl) hF
theorem lw_19 {B L i : Int} {X : Int → Int} {V : ASt} {F : ASt → Option (Int × ASt)} {Q : Int → ASt → Prop} (hX : ∀ j, r32 (X j)) (hB : 0 ≤ B ∧ B ≤ 600) (hi : 0 ≤ i ∧ i + 6 ≤ L) (hL : L ≤ 3072) (h : lwI B V) (hF : ∀ W, lwI (B + 1) W → Tr (F W) Q) : Tr (gd (inS L (w32 (i + 1))) (gd (isO S0 0 12) (bnd (f_SG_outcome S0 V 0 (X (w32 (i + 1)))) (fun r1 V1 => gd (inS L (w32 (i + 1))) (gd (isO S0 142 13) (bnd (f_M_outcome S0 V1 142 (X (w32 (i + 1)))) (fun r2 V2 => if r1 = r2 then F V2 else some (0, V2)))))))) Q := by
  obtain ⟨x, hI, hr, hd⟩ := h
  have hI2 := hI
  obtain ⟨hG, hs, hn, i0, i1, i2, i3, i4, i5, i6, i9, i10, i11, i12, i13, i20, iH, iP, iT⟩ := hI2
  have hM : IV (B + 1) x := IV_mono hI (by omega)
  obtain ⟨t, ht⟩ := hd
  rw [w32_id (x := i + 1) (by omega) (by omega), gd_in (by omega) (by omega), gd_t O_0]
  refine Tr_bnd (D_outcome hG hs hn ht _) ?_
  rintro r1 U ⟨e1, dU, fU⟩
  have rU : rI x U := rI_X hr fU
  rw [gd_in (by omega) (by omega), gd_t O_142]
  refine Tr_bnd (R_outcome hG hs rU i0.1 _) ?_
  rintro r2 W ⟨e2, rW, fW⟩
  exact lw_fin (hM) e1 ⟨t, dU⟩ e2 rW (fun a ha => fW a (Or.inl ha)) hF
theorem lw_20 {B L i : Int} {X : Int → Int} {V : ASt} {F : ASt → Option (Int × ASt)} {Q : Int → ASt → Prop} (hX : ∀ j, r32 (X j)) (hB : 0 ≤ B ∧ B ≤ 600) (hi : 0 ≤ i ∧ i + 6 ≤ L) (hL : L ≤ 3072) (h : lwI B V) (hF : ∀ W, lwI (B + 1) W → Tr (F W) Q) : Tr (gd (inS L (w32 (i + 1))) (gd (isO S0 0 12) (bnd (f_SG_turning S0 V 0 (X (w32 (i + 1)))) (fun r1 V1 => gd (inS L (w32 (i + 1))) (gd (isO S0 142 13) (bnd (f_M_turning S0 V1 142 (X (w32 (i + 1)))) (fun r2 V2 => if r1 = r2 then F V2 else some (0, V2)))))))) Q := by
  obtain ⟨x, hI, hr, hd⟩ := h
  have hI2 := hI
  obtain ⟨hG, hs, hn, i0, i1, i2, i3, i4, i5, i6, i9, i10, i11, i12, i13, i20, iH, iP, iT⟩ := hI2
  have hM : IV (B + 1) x := IV_mono hI (by omega)
  obtain ⟨t, ht⟩ := hd
  rw [w32_id (x := i + 1) (by omega) (by omega), gd_in (by omega) (by omega), gd_t O_0]
  refine Tr_bnd (D_turning hG hs hn ht _) ?_
  rintro r1 U ⟨e1, dU, fU⟩
  have rU : rI x U := rI_X hr fU
  rw [gd_in (by omega) (by omega), gd_t O_142]
  refine Tr_bnd (R_turning hG hs rU i0.1 _) ?_
  rintro r2 W ⟨e2, rW, fW⟩
  exact lw_fin (hM) e1 ⟨t, dU⟩ e2 rW (fun a ha => fW a (Or.inl ha)) hF
theorem lw_21 {B L i : Int} {X : Int → Int} {V : ASt} {F : ASt → Option (Int × ASt)} {Q : Int → ASt → Prop} (hX : ∀ j, r32 (X j)) (hB : 0 ≤ B ∧ B ≤ 600) (hi : 0 ≤ i ∧ i + 6 ≤ L) (hL : L ≤ 3072) (h : lwI B V) (hF : ∀ W, lwI (B + 1) W → Tr (F W) Q) : Tr (gd (inS L (w32 (i + 1))) (gd (isO S0 0 12) (bnd (f_SG_make S0 V 0 (X (w32 (i + 1)))) (fun r1 V1 => gd (inS L (w32 (i + 1))) (gd (isO S0 142 13) (bnd (f_M_make S0 V1 142 (X (w32 (i + 1)))) (fun r2 V2 => if r1 = r2 then F V2 else some (0, V2)))))))) Q := by
  obtain ⟨x, hI, hr, hd⟩ := h
  have hI2 := hI
  obtain ⟨hG, hs, hn, i0, i1, i2, i3, i4, i5, i6, i9, i10, i11, i12, i13, i20, iH, iP, iT⟩ := hI2
  have hM : IV (B + 1) x := IV_mono hI (by omega)
  have hb : ∀ k, 20 ≤ k → k ≤ 25 → 0 ≤ xN x k ∧ xN x k ≤ 100000 := fun k k0 k1 => by have := i20 k k0 k1; omega
  obtain ⟨t, ht⟩ := hd
  rw [w32_id (x := i + 1) (by omega) (by omega), gd_in (by omega) (by omega), gd_t O_0]
  refine Tr_bnd (D_make hG hs ht i1 hb _) ?_
  rintro r1 U ⟨e1, dU, fU⟩
  have rU : rI x U := rI_X hr fU
  rw [gd_in (by omega) (by omega), gd_t O_142]
  refine Tr_bnd (R_make hG hs rU i1 i0.1 i0.2.2 i4.1 hb _) ?_
  rintro r2 W ⟨e2, rW, fW⟩
  exact lw_fin (IV_make hI _) e1 ⟨t, dU⟩ e2 rW (fun a ha => fW a (Or.inl ha)) hF
theorem lw_22 {B L i : Int} {X : Int → Int} {V : ASt} {F : ASt → Option (Int × ASt)} {Q : Int → ASt → Prop} (hX : ∀ j, r32 (X j)) (hB : 0 ≤ B ∧ B ≤ 600) (hi : 0 ≤ i ∧ i + 6 ≤ L) (hL : L ≤ 3072) (h : lwI B V) (hF : ∀ W, lwI (B + 1) W → Tr (F W) Q) : Tr (gd (isO S0 0 12) (bnd (f_SG_undo S0 V 0) (fun r1 V1 => gd (isO S0 142 13) (bnd (f_M_undo S0 V1 142) (fun r2 V2 => if r1 = r2 then F V2 else some (0, V2)))))) Q := by
  obtain ⟨x, hI, hr, hd⟩ := h
  have hI2 := hI
  obtain ⟨hG, hs, hn, i0, i1, i2, i3, i4, i5, i6, i9, i10, i11, i12, i13, i20, iH, iP, iT⟩ := hI2
  have hM : IV (B + 1) x := IV_mono hI (by omega)
  have hb : ∀ k, 20 ≤ k → k ≤ 25 → 0 ≤ xN x k ∧ xN x k ≤ 100000 := fun k k0 k1 => by have := i20 k k0 k1; omega
  have hH : ∀ i, 0 ≤ i → i < xN x 1 → SOK (xG x) (xH x i) := fun i q0 q1 => (iH i q0 q1).1
  obtain ⟨t, ht⟩ := hd
  rw [gd_t O_0]
  refine Tr_bnd (D_undo hG ht i1 hH hb) ?_
  rintro r1 U ⟨e1, dU, fU⟩
  have rU : rI x U := rI_X hr fU
  rw [gd_t O_142]
  refine Tr_bnd (R_undo hG rU i1 hH i0.1 i0.2.2 i4.1 hb) ?_
  rintro r2 W ⟨e2, rW, fW⟩
  exact lw_fin (IV_undo hI) e1 ⟨t, dU⟩ e2 rW (fun a ha => fW a (Or.inl ha)) hF
theorem lw_23 {B L i : Int} {X : Int → Int} {V : ASt} {F : ASt → Option (Int × ASt)} {Q : Int → ASt → Prop} (hX : ∀ j, r32 (X j)) (hB : 0 ≤ B ∧ B ≤ 600) (hi : 0 ≤ i ∧ i + 6 ≤ L) (hL : L ≤ 3072) (h : lwI B V) (hF : ∀ W, lwI (B + 1) W → Tr (F W) Q) : Tr (gd (inS L (w32 (i + 1))) (gd (inS L (w32 (i + 2))) (gd (isO S0 0 12) (bnd (f_SG_kind S0 V 0 (X (w32 (i + 1))) (X (w32 (i + 2)))) (fun r1 V1 => gd (inS L (w32 (i + 1))) (gd (inS L (w32 (i + 2))) (gd (isO S0 142 13) (bnd (f_M_kind S0 V1 142 (X (w32 (i + 1))) (X (w32 (i + 2)))) (fun r2 V2 => if r1 = r2 then F V2 else some (0, V2)))))))))) Q := by
  obtain ⟨x, hI, hr, hd⟩ := h
  have hI2 := hI
  obtain ⟨hG, hs, hn, i0, i1, i2, i3, i4, i5, i6, i9, i10, i11, i12, i13, i20, iH, iP, iT⟩ := hI2
  have hM : IV (B + 1) x := IV_mono hI (by omega)
  have hb : ∀ k, 20 ≤ k → k ≤ 25 → 0 ≤ xN x k ∧ xN x k ≤ 100000 := fun k k0 k1 => by have := i20 k k0 k1; omega
  obtain ⟨t, ht⟩ := hd
  rw [w32_id (x := i + 1) (by omega) (by omega), w32_id (x := i + 2) (by omega) (by omega), gd_in (by omega) (by omega), gd_in (by omega) (by omega), gd_t O_0]
  refine Tr_bnd (D_kind ht hb _ _) ?_
  rintro r1 U ⟨e1, dU, fU⟩
  have rU : rI x U := rI_X hr fU
  rw [gd_in (by omega) (by omega), gd_in (by omega) (by omega), gd_t O_142]
  refine Tr_bnd (R_kind rU hb _ _) ?_
  rintro r2 W ⟨e2, rW, fW⟩
  exact lw_fin (IV_kind hI _ _) e1 ⟨t, dU⟩ e2 rW (fun a ha => fW a (Or.inl ha)) hF
theorem lw_24 {B L i : Int} {X : Int → Int} {V : ASt} {F : ASt → Option (Int × ASt)} {Q : Int → ASt → Prop} (hX : ∀ j, r32 (X j)) (hB : 0 ≤ B ∧ B ≤ 600) (hi : 0 ≤ i ∧ i + 6 ≤ L) (hL : L ≤ 3072) (h : lwI B V) (hF : ∀ W, lwI (B + 1) W → Tr (F W) Q) : Tr (gd (isO S0 0 12) (bnd (f_SG_sunday S0 V 0) (fun r1 V1 => gd (isO S0 142 13) (bnd (f_M_sunday S0 V1 142) (fun r2 V2 => if r1 = r2 then F V2 else some (0, V2)))))) Q := by
  obtain ⟨x, hI, hr, hd⟩ := h
  have hI2 := hI
  obtain ⟨hG, hs, hn, i0, i1, i2, i3, i4, i5, i6, i9, i10, i11, i12, i13, i20, iH, iP, iT⟩ := hI2
  have hM : IV (B + 1) x := IV_mono hI (by omega)
  have b0 : 0 ≤ xN x 0 ∧ xN x 0 ≤ 100000 := by omega
  have hk : (0 ≤ xN x 10 ∧ xN x 10 ≤ 2) ∧ (0 ≤ xN x 11 ∧ xN x 11 ≤ 2) := ⟨i10, i11⟩
  obtain ⟨t, ht⟩ := hd
  rw [gd_t O_0]
  refine Tr_bnd (D_sunday hG hs hn ht i1 b0 hk) ?_
  rintro r1 U ⟨e1, dU, fU⟩
  have rU : rI x U := rI_X hr fU
  rw [gd_t O_142]
  refine Tr_bnd (R_sunday hG hs rU i1 b0 hk) ?_
  rintro r2 W ⟨e2, rW, fW⟩
  exact lw_fin (IV_sunday hI) e1 ⟨t, dU⟩ e2 rW (fun a ha => fW a (Or.inl ha)) hF
theorem lw_25 {B L i : Int} {X : Int → Int} {V : ASt} {F : ASt → Option (Int × ASt)} {Q : Int → ASt → Prop} (hX : ∀ j, r32 (X j)) (hB : 0 ≤ B ∧ B ≤ 600) (hi : 0 ≤ i ∧ i + 6 ≤ L) (hL : L ≤ 3072) (h : lwI B V) (hF : ∀ W, lwI (B + 1) W → Tr (F W) Q) : Tr (gd (inS L (w32 (i + 1))) (gd (isO S0 0 12) (bnd (f_SG_would S0 V 0 (X (w32 (i + 1)))) (fun r1 V1 => gd (inS L (w32 (i + 1))) (gd (isO S0 142 13) (bnd (f_M_would S0 V1 142 (X (w32 (i + 1)))) (fun r2 V2 => if r1 = r2 then F V2 else some (0, V2)))))))) Q := by
  obtain ⟨x, hI, hr, hd⟩ := h
  have hI2 := hI
  obtain ⟨hG, hs, hn, i0, i1, i2, i3, i4, i5, i6, i9, i10, i11, i12, i13, i20, iH, iP, iT⟩ := hI2
  have hM : IV (B + 1) x := IV_mono hI (by omega)
  have b0 : 0 ≤ xN x 0 ∧ xN x 0 ≤ 100000 := by omega
  have hk : (0 ≤ xN x 10 ∧ xN x 10 ≤ 2) ∧ (0 ≤ xN x 11 ∧ xN x 11 ≤ 2) := ⟨i10, i11⟩
  obtain ⟨t, ht⟩ := hd
  rw [w32_id (x := i + 1) (by omega) (by omega), gd_in (by omega) (by omega), gd_t O_0]
  refine Tr_bnd (D_would hG hs hn ht i0.1 hk _) ?_
  rintro r1 U ⟨e1, dU, fU⟩
  have rU : rI x U := rI_X hr fU
  rw [gd_in (by omega) (by omega), gd_t O_142]
  refine Tr_bnd (R_would hG hs rU b0 hk _) ?_
  rintro r2 W ⟨e2, rW, fW⟩
  exact lw_fin (hM) e1 ⟨t, dU⟩ e2 rW (fun a ha => fW a (Or.inl ha)) hF
theorem lw_26 {B L i : Int} {X : Int → Int} {V : ASt} {F : ASt → Option (Int × ASt)} {Q : Int → ASt → Prop} (hX : ∀ j, r32 (X j)) (hB : 0 ≤ B ∧ B ≤ 600) (hi : 0 ≤ i ∧ i + 6 ≤ L) (hL : L ≤ 3072) (h : lwI B V) (hF : ∀ W, lwI (B + 1) W → Tr (F W) Q) : Tr (gd (inS L (w32 (i + 1))) (gd (isO S0 0 12) (bnd (f_SG_pays S0 V 0 (X (w32 (i + 1)))) (fun r1 V1 => gd (inS L (w32 (i + 1))) (gd (isO S0 142 13) (bnd (f_M_pays S0 V1 142 (X (w32 (i + 1)))) (fun r2 V2 => if r1 = r2 then F V2 else some (0, V2)))))))) Q := by
  obtain ⟨x, hI, hr, hd⟩ := h
  have hI2 := hI
  obtain ⟨hG, hs, hn, i0, i1, i2, i3, i4, i5, i6, i9, i10, i11, i12, i13, i20, iH, iP, iT⟩ := hI2
  have hM : IV (B + 1) x := IV_mono hI (by omega)
  have b0 : 0 ≤ xN x 0 ∧ xN x 0 ≤ 100000 := by omega
  have hk : (0 ≤ xN x 10 ∧ xN x 10 ≤ 2) ∧ (0 ≤ xN x 11 ∧ xN x 11 ≤ 2) := ⟨i10, i11⟩
  obtain ⟨t, ht⟩ := hd
  rw [w32_id (x := i + 1) (by omega) (by omega), gd_in (by omega) (by omega), gd_t O_0]
  refine Tr_bnd (D_pays hG hs hn ht i0.1 hk _) ?_
  rintro r1 U ⟨e1, dU, fU⟩
  have rU : rI x U := rI_X hr fU
  rw [gd_in (by omega) (by omega), gd_t O_142]
  refine Tr_bnd (R_pays hG hs rU b0 hk _) ?_
  rintro r2 W ⟨e2, rW, fW⟩
  exact lw_fin (hM) e1 ⟨t, dU⟩ e2 rW (fun a ha => fW a (Or.inl ha)) hF
theorem lw_27 {B L i : Int} {X : Int → Int} {V : ASt} {F : ASt → Option (Int × ASt)} {Q : Int → ASt → Prop} (hX : ∀ j, r32 (X j)) (hB : 0 ≤ B ∧ B ≤ 600) (hi : 0 ≤ i ∧ i + 6 ≤ L) (hL : L ≤ 3072) (h : lwI B V) (hF : ∀ W, lwI (B + 1) W → Tr (F W) Q) : Tr (gd (inS L (w32 (i + 1))) (gd (inS L (w32 (i + 2))) (gd (isO S0 0 12) (bnd (f_SG_ring S0 V 0 (X (w32 (i + 1))) (X (w32 (i + 2)))) (fun r1 V1 => gd (inS L (w32 (i + 1))) (gd (inS L (w32 (i + 2))) (gd (isO S0 142 13) (bnd (f_M_ring S0 V1 142 (X (w32 (i + 1))) (X (w32 (i + 2)))) (fun r2 V2 => if r1 = r2 then F V2 else some (0, V2)))))))))) Q := by
  obtain ⟨x, hI, hr, hd⟩ := h
  have hI2 := hI
  obtain ⟨hG, hs, hn, i0, i1, i2, i3, i4, i5, i6, i9, i10, i11, i12, i13, i20, iH, iP, iT⟩ := hI2
  have hM : IV (B + 1) x := IV_mono hI (by omega)
  have b9 : 0 ≤ xN x 0 ∧ xN x 0 ≤ 90000 := by omega
  have hk : (0 ≤ xN x 10 ∧ xN x 10 ≤ 2) ∧ (0 ≤ xN x 11 ∧ xN x 11 ≤ 2) := ⟨i10, i11⟩
  obtain ⟨t, ht⟩ := hd
  rw [w32_id (x := i + 1) (by omega) (by omega), w32_id (x := i + 2) (by omega) (by omega), gd_in (by omega) (by omega), gd_in (by omega) (by omega), gd_t O_0]
  refine Tr_bnd (D_ring hG hs hn ht b9 hk _ _) ?_
  rintro r1 U ⟨e1, dU, fU⟩
  have rU : rI x U := rI_X hr fU
  rw [gd_in (by omega) (by omega), gd_in (by omega) (by omega), gd_t O_142]
  refine Tr_bnd (R_ring hG hs hn rU b9 hk _ _) ?_
  rintro r2 W ⟨e2, rW, fW⟩
  exact lw_fin (hM) e1 ⟨t, dU⟩ e2 rW fW hF
theorem lw_28 {B L i : Int} {X : Int → Int} {V : ASt} {F : ASt → Option (Int × ASt)} {Q : Int → ASt → Prop} (hX : ∀ j, r32 (X j)) (hB : 0 ≤ B ∧ B ≤ 600) (hi : 0 ≤ i ∧ i + 6 ≤ L) (hL : L ≤ 3072) (h : lwI B V) (hF : ∀ W, lwI (B + 1) W → Tr (F W) Q) : Tr (gd (isO S0 0 12) (bnd (f_SG_spring S0 V 0) (fun r1 V1 => gd (isO S0 142 13) (bnd (f_M_spring S0 V1 142) (fun r2 V2 => if r1 = r2 then F V2 else some (0, V2)))))) Q := by
  obtain ⟨x, hI, hr, hd⟩ := h
  have hI2 := hI
  obtain ⟨hG, hs, hn, i0, i1, i2, i3, i4, i5, i6, i9, i10, i11, i12, i13, i20, iH, iP, iT⟩ := hI2
  have hM : IV (B + 1) x := IV_mono hI (by omega)
  obtain ⟨t, ht⟩ := hd
  rw [gd_t O_0]
  refine Tr_bnd (D_spring hG ht i1.2) ?_
  rintro r1 U ⟨e1, dU, fU⟩
  have rU : rI x U := rI_X hr fU
  rw [gd_t O_142]
  refine Tr_bnd (R_spring hG hs rU i1.2) ?_
  rintro r2 W ⟨e2, rW, fW⟩
  exact lw_fin (IV_mono (IV_spr hI) (by omega)) e1 ⟨t, dU⟩ e2 rW (fun a ha => fW a (Or.inl ha)) hF
theorem lw_29 {B L i : Int} {X : Int → Int} {V : ASt} {F : ASt → Option (Int × ASt)} {Q : Int → ASt → Prop} (hX : ∀ j, r32 (X j)) (hB : 0 ≤ B ∧ B ≤ 600) (hi : 0 ≤ i ∧ i + 6 ≤ L) (hL : L ≤ 3072) (h : lwI B V) (hF : ∀ W, lwI (B + 1) W → Tr (F W) Q) : Tr (gd (inS L (w32 (i + 1))) (gd (isO S0 0 12) (bnd (f_SG_parts S0 V 0 (X (w32 (i + 1)))) (fun r1 V1 => gd (inS L (w32 (i + 1))) (gd (isO S0 142 13) (bnd (f_M_parts S0 V1 142 (X (w32 (i + 1)))) (fun r2 V2 => if r1 = r2 then F V2 else some (0, V2)))))))) Q := by
  obtain ⟨x, hI, hr, hd⟩ := h
  have hI2 := hI
  obtain ⟨hG, hs, hn, i0, i1, i2, i3, i4, i5, i6, i9, i10, i11, i12, i13, i20, iH, iP, iT⟩ := hI2
  have hM : IV (B + 1) x := IV_mono hI (by omega)
  have hsp : xN x 2 = 1 → SOK (xG x) (xH x 40) := fun e => (iP e).1
  obtain ⟨t, ht⟩ := hd
  rw [w32_id (x := i + 1) (by omega) (by omega), gd_in (by omega) (by omega), gd_t O_0]
  refine Tr_bnd (D_parts hG hs ht i1.2 i2 hsp _) ?_
  rintro r1 U ⟨e1, dU, fU⟩
  have rU : rI x U := rI_X hr fU
  rw [gd_in (by omega) (by omega), gd_t O_142]
  refine Tr_bnd (R_parts hG hs rU i0.1 i2 hsp _) ?_
  rintro r2 W ⟨e2, rW, fW⟩
  exact lw_fin (hM) e1 ⟨t, dU⟩ e2 rW fW hF
theorem lw_30 {B L i : Int} {X : Int → Int} {V : ASt} {F : ASt → Option (Int × ASt)} {Q : Int → ASt → Prop} (hX : ∀ j, r32 (X j)) (hB : 0 ≤ B ∧ B ≤ 600) (hi : 0 ≤ i ∧ i + 6 ≤ L) (hL : L ≤ 3072) (h : lwI B V) (hF : ∀ W, lwI (B + 1) W → Tr (F W) Q) : Tr (gd (isO S0 0 12) (bnd (f_SG_image S0 V 0) (fun r1 V1 => gd (isO S0 142 13) (bnd (f_M_image S0 V1 142) (fun r2 V2 => if r1 = r2 then F V2 else some (0, V2)))))) Q := by
  obtain ⟨x, hI, hr, hd⟩ := h
  have hI2 := hI
  obtain ⟨hG, hs, hn, i0, i1, i2, i3, i4, i5, i6, i9, i10, i11, i12, i13, i20, iH, iP, iT⟩ := hI2
  have hM : IV (B + 1) x := IV_mono hI (by omega)
  have bM : 0 ≤ xN x 0 ∧ xN x 0 ≤ 1000000 := by omega
  obtain ⟨t, ht⟩ := hd
  rw [gd_t O_0]
  refine Tr_bnd (D_image hG hs ht i1.2 bM) ?_
  rintro r1 U ⟨e1, dU, fU⟩
  have rU : rI x U := rI_X hr fU
  rw [gd_t O_142]
  refine Tr_bnd (R_image hG hs rU bM) ?_
  rintro r2 W ⟨e2, rW, fW⟩
  exact lw_fin (IV_mono (IV_img hI) (by omega)) e1 ⟨t, dU⟩ e2 rW (fun a ha => fW a (Or.inl ha)) hF
theorem lw_31 {B L i : Int} {X : Int → Int} {V : ASt} {F : ASt → Option (Int × ASt)} {Q : Int → ASt → Prop} (hX : ∀ j, r32 (X j)) (hB : 0 ≤ B ∧ B ≤ 600) (hi : 0 ≤ i ∧ i + 6 ≤ L) (hL : L ≤ 3072) (h : lwI B V) (hF : ∀ W, lwI (B + 1) W → Tr (F W) Q) : Tr (gd (inS L (w32 (i + 1))) (gd (isO S0 0 12) (bnd (f_SG_octet S0 V 0 (X (w32 (i + 1)))) (fun r1 V1 => gd (inS L (w32 (i + 1))) (gd (isO S0 142 13) (bnd (f_M_octet S0 V1 142 (X (w32 (i + 1)))) (fun r2 V2 => if r1 = r2 then F V2 else some (0, V2)))))))) Q := by
  obtain ⟨x, hI, hr, hd⟩ := h
  have hI2 := hI
  obtain ⟨hG, hs, hn, i0, i1, i2, i3, i4, i5, i6, i9, i10, i11, i12, i13, i20, iH, iP, iT⟩ := hI2
  have hM : IV (B + 1) x := IV_mono hI (by omega)
  obtain ⟨t, ht⟩ := hd
  rw [w32_id (x := i + 1) (by omega) (by omega), gd_in (by omega) (by omega), gd_t O_0]
  refine Tr_bq (D_octet ht i9 _) ?_
  have rU : rI x V := hr
  rw [gd_in (by omega) (by omega), gd_t O_142]
  refine Tr_bq (R_octet rU i9 _) ?_
  exact lw_fin (hM) rfl ⟨t, ht⟩ rfl rU (fun _ _ => rfl) hF
theorem lw_32 {B L i : Int} {X : Int → Int} {V : ASt} {F : ASt → Option (Int × ASt)} {Q : Int → ASt → Prop} (hX : ∀ j, r32 (X j)) (hB : 0 ≤ B ∧ B ≤ 600) (hi : 0 ≤ i ∧ i + 6 ≤ L) (hL : L ≤ 3072) (h : lwI B V) (hF : ∀ W, lwI (B + 1) W → Tr (F W) Q) : Tr (gd (isO S0 0 12) (bnd (f_SG_on S0 V 0) (fun r1 V1 => gd (isO S0 142 13) (bnd (f_M_on S0 V1 142) (fun r2 V2 => if r1 = r2 then F V2 else some (0, V2)))))) Q := by
  obtain ⟨x, hI, hr, hd⟩ := h
  have hI2 := hI
  obtain ⟨hG, hs, hn, i0, i1, i2, i3, i4, i5, i6, i9, i10, i11, i12, i13, i20, iH, iP, iT⟩ := hI2
  have hM : IV (B + 1) x := IV_mono hI (by omega)
  have b25 : 0 ≤ xN x 25 ∧ xN x 25 ≤ 100000 := by have := i20 25 (by decide) (by decide); omega
  obtain ⟨t, ht⟩ := hd
  rw [gd_t O_0]
  refine Tr_bnd (D_on hG hs hn ht i1.2 i6 iT b25) ?_
  rintro r1 U ⟨e1, dU, fU⟩
  have rU : rI x U := rI_X hr fU
  rw [gd_t O_142]
  refine Tr_bnd (R_on hG hs rU i6 iT i4.1 b25) ?_
  rintro r2 W ⟨e2, rW, fW⟩
  exact lw_fin (IV_on hI) e1 ⟨t, dU⟩ e2 rW (fun a ha => fW a (Or.inl ha)) hF
theorem lw_33 {B L i : Int} {X : Int → Int} {V : ASt} {F : ASt → Option (Int × ASt)} {Q : Int → ASt → Prop} (hX : ∀ j, r32 (X j)) (hB : 0 ≤ B ∧ B ≤ 600) (hi : 0 ≤ i ∧ i + 6 ≤ L) (hL : L ≤ 3072) (h : lwI B V) (hF : ∀ W, lwI (B + 1) W → Tr (F W) Q) : Tr (gd (inS L (w32 (i + 1))) (gd (isO S0 0 12) (bnd (f_SG_status S0 V 0 (X (w32 (i + 1)))) (fun r1 V1 => gd (inS L (w32 (i + 1))) (gd (isO S0 142 13) (bnd (f_M_status S0 V1 142 (X (w32 (i + 1)))) (fun r2 V2 => if r1 = r2 then F V2 else some (0, V2)))))))) Q := by
  obtain ⟨x, hI, hr, hd⟩ := h
  have hI2 := hI
  obtain ⟨hG, hs, hn, i0, i1, i2, i3, i4, i5, i6, i9, i10, i11, i12, i13, i20, iH, iP, iT⟩ := hI2
  have hM : IV (B + 1) x := IV_mono hI (by omega)
  obtain ⟨t, ht⟩ := hd
  rw [w32_id (x := i + 1) (by omega) (by omega), gd_in (by omega) (by omega), gd_t O_0]
  refine Tr_bq (D_status ht _) ?_
  have rU : rI x V := hr
  rw [gd_in (by omega) (by omega), gd_t O_142]
  refine Tr_bq (R_status rU _) ?_
  exact lw_fin (hM) rfl ⟨t, ht⟩ rfl rU (fun _ _ => rfl) hF
theorem law_ok {L : Int} {X : Int → Int} (hX : ∀ j, r32 (X j)) (h0 : 0 ≤ L) (hL : L ≤ 3072) : ∀ (f : Nat) (B : Int) (V : ASt), 0 ≤ B → 6 * B ≤ L → L - 6 * B < f → lwI B V → Tr (b_Law_law_L18 S0 L X 0 142 f V (6 * B)) (fun r _ => r = 1) := by
  intro f
  induction f with
  | zero => intro B V b0 b1 hf; omega
  | succ f ih =>
    intro B V b0 b1 hf h
    have hw : w32 (L - 6) = L - 6 := w32_id (by omega) (by omega)
    rw [b_Law_law_L18, hw]
    refine Tr_if (fun _ => Tr_ret rfl) (fun c => ?_)
    have hi : 0 ≤ 6 * B ∧ 6 * B + 6 ≤ L := by omega
    have hB : 0 ≤ B ∧ B ≤ 600 := by omega
    have e6 : w32 (6 * B + 6) = 6 * (B + 1) := by rw [w32_id (by omega) (by omega)]; omega
    have hF : ∀ W, lwI (B + 1) W → Tr ((fun W => b_Law_law_L18 S0 L X 0 142 f W (w32 (6 * B + 6))) W) (fun r _ => r = 1) := fun W hW => by
      show Tr (b_Law_law_L18 S0 L X 0 142 f W (w32 (6 * B + 6))) _
      rw [e6]
      exact ih (B + 1) W (by omega) (by omega) (by omega) hW
    rw [gd_in (by omega) (by omega)]
    refine Tr_if (fun _ => lw_0 hX hB hi hL h hF) (fun _ => ?_)
    refine Tr_if (fun _ => lw_1 hX hB hi hL h hF) (fun _ => ?_)
    refine Tr_if (fun _ => lw_2 hX hB hi hL h hF) (fun _ => ?_)
    refine Tr_if (fun _ => lw_3 hX hB hi hL h hF) (fun _ => ?_)
    refine Tr_if (fun _ => lw_4 hX hB hi hL h hF) (fun _ => ?_)
    refine Tr_if (fun _ => lw_5 hX hB hi hL h hF) (fun _ => ?_)
    refine Tr_if (fun _ => lw_6 hX hB hi hL h hF) (fun _ => ?_)
    refine Tr_if (fun _ => lw_7 hX hB hi hL h hF) (fun _ => ?_)
    refine Tr_if (fun _ => lw_8 hX hB hi hL h hF) (fun _ => ?_)
    refine Tr_if (fun _ => lw_9 hX hB hi hL h hF) (fun _ => ?_)
    refine Tr_if (fun _ => lw_10 hX hB hi hL h hF) (fun _ => ?_)
    refine Tr_if (fun _ => lw_11 hX hB hi hL h hF) (fun _ => ?_)
    refine Tr_if (fun _ => lw_12 hX hB hi hL h hF) (fun _ => ?_)
    refine Tr_if (fun _ => lw_13 hX hB hi hL h hF) (fun _ => ?_)
    refine Tr_if (fun _ => lw_14 hX hB hi hL h hF) (fun _ => ?_)
    refine Tr_if (fun _ => lw_15 hX hB hi hL h hF) (fun _ => ?_)
    refine Tr_if (fun _ => lw_16 hX hB hi hL h hF) (fun _ => ?_)
    refine Tr_if (fun _ => lw_17 hX hB hi hL h hF) (fun _ => ?_)
    refine Tr_if (fun _ => lw_18 hX hB hi hL h hF) (fun _ => ?_)
    refine Tr_if (fun _ => lw_19 hX hB hi hL h hF) (fun _ => ?_)
    refine Tr_if (fun _ => lw_20 hX hB hi hL h hF) (fun _ => ?_)
    refine Tr_if (fun _ => lw_21 hX hB hi hL h hF) (fun _ => ?_)
    refine Tr_if (fun _ => lw_22 hX hB hi hL h hF) (fun _ => ?_)
    refine Tr_if (fun _ => lw_23 hX hB hi hL h hF) (fun _ => ?_)
    refine Tr_if (fun _ => lw_24 hX hB hi hL h hF) (fun _ => ?_)
    refine Tr_if (fun _ => lw_25 hX hB hi hL h hF) (fun _ => ?_)
    refine Tr_if (fun _ => lw_26 hX hB hi hL h hF) (fun _ => ?_)
    refine Tr_if (fun _ => lw_27 hX hB hi hL h hF) (fun _ => ?_)
    refine Tr_if (fun _ => lw_28 hX hB hi hL h hF) (fun _ => ?_)
    refine Tr_if (fun _ => lw_29 hX hB hi hL h hF) (fun _ => ?_)
    refine Tr_if (fun _ => lw_30 hX hB hi hL h hF) (fun _ => ?_)
    refine Tr_if (fun _ => lw_31 hX hB hi hL h hF) (fun _ => ?_)
    refine Tr_if (fun _ => lw_32 hX hB hi hL h hF) (fun _ => ?_)
    refine Tr_if (fun _ => lw_33 hX hB hi hL h hF) (fun _ => ?_)
    obtain ⟨x, q1, q2⟩ := h
    exact hF V ⟨x, IV_mono q1 (by omega), q2⟩
theorem pure_ok : PureOK := by
  intro L X h0 hL hX
  obtain ⟨r, V1, e, hr⟩ := law_ok hX h0 hL FU 0 V0 (Int.le_refl 0) (by omega) (by rw [FU_v]; omega) ⟨xz, IV_z, rI_z, dI_z⟩
  subst hr
  exact ⟨S0, V0, V1, run_ok, e⟩
