/-! images -/
def uI (x : ST) (f : Int → Int) : ST := (x.1, x.2.1, x.2.2.1, x.2.2.2.1, x.2.2.2.2.1, f)
def xPi (x : ST) (v : Int) : ST := uN (uI x (upI x.2.2.2.2.2 (xN x 9) (v % 256))) 9 (xN x 9 + 1)
theorem xPi_n (x : ST) (v : Int) {k : Int} (h : k ≠ 9) : xN (xPi x v) k = xN x k := uN_n (uI x _) _ h
theorem xPi_9 (x : ST) (v : Int) : xN (xPi x v) 9 = xN x 9 + 1 := uN_s (uI x _) _ _
theorem xPi_I (x : ST) (v i : Int) : xI (xPi x v) i = if i = xN x 9 then v % 256 else xI x i := by
  show upI x.2.2.2.2.2 (xN x 9) (v % 256) i = _
  unfold upI xI
  rfl
def imB (x : ST) : Prop := ∀ i, 0 ≤ i → i < xN x 9 → 0 ≤ xI x i ∧ xI x i ≤ 255
theorem imB_p {x : ST} (h : imB x) (v : Int) : imB (xPi x v) := fun i i0 i1 => by
  rw [xPi_9] at i1
  rw [xPi_I]
  by_cases z : i = xN x 9
  · rw [if_pos z]; omega
  · rw [if_neg z]; exact h i i0 (by omega)
def chkF (I : Int → Int) : Nat → Int → Int → Int
  | 0, _, c => c
  | n + 1, i, c => chkF I n (i + 1) ((7 * c + I i) % 223)
def imP (s : SL) : Nat → Int → ST → ST
  | 0, _, x => x
  | n + 1, p, x => imP s n (p + 1) (xPi (xPi (xPi x (sA s p)) (sX s (sA s p) + 2 * sT s (sA s p))) (sN s (sA s p)))
def imQ (x : ST) : ST := xPi (xPi (xPi (xPi (xPi (xPi x (xN x 0 / 256)) (xN x 0)) (xN x 10)) (xN x 11)) (xN x 12)) (xN x 13)
def imC (x : ST) : ST := xPi x (chkF x.2.2.2.2.2 (xN x 9).toNat 0 37)
def xImg (x : ST) : ST := imC (imQ (imP (xS x) (qR (xG x)).toNat 0 (xPi (uN x 9 0) (qR (xG x)))))
theorem rI_im {x x' : ST} {V U : ASt} (h : rI x V) (e1 : x'.1 = x.1) (e2 : x'.2.1 = x.2.1) (eH : x'.2.2.2.1 = x.2.2.2.1) (eT : x'.2.2.2.2.1 = x.2.2.2.2.1) (hn : ∀ k, k ≠ 9 → xN x' k = xN x k) (hf : ∀ a, rK a → a ≠ 197 → U a = V a) (h142 : ∀ k, rKn k → k ≠ 80 → U 142 k = V 142 k) (h9 : U 142 80 = xN x' 9) (hI : ∀ i, 0 ≤ i → i < xN x' 9 → U 197 i = xI x' i) : rI x' U := by
  have h' := h
  obtain ⟨b, g1, g2, g3, g4, g5, g6, g7, g8, g9, g10⟩ := h
  refine rI_mk h' e1 e2 (fun a ha => hf a (by unfold rK; omega) (by omega)) (h142 12 (by unfold rKn; omega) (by decide)) ?_ ⟨?_, fun k k0 k1 => ?_⟩ ?_ hI (rKp_fr (rKp_of h') e1 eH (hn 1 (by decide)) (hn 2 (by decide)) (fun a ha => hf a (by unfold rK; omega) (by omega)))
  · unfold rSc
    rw [h142 48 (by unfold rKn; omega) (by decide), h142 65 (by unfold rKn; omega) (by decide), h142 72 (by unfold rKn; omega) (by decide), h142 59 (by unfold rKn; omega) (by decide), h142 60 (by unfold rKn; omega) (by decide), h142 61 (by unfold rKn; omega) (by decide), h142 1 (by unfold rKn; omega) (by decide), h142 10 (by unfold rKn; omega) (by decide), h142 11 (by unfold rKn; omega) (by decide), h9, hn 0 (by decide), hn 1 (by decide), hn 2 (by decide), hn 3 (by decide), hn 4 (by decide), hn 5 (by decide), hn 6 (by decide), hn 7 (by decide), hn 8 (by decide)]
    exact ⟨g5.1, g5.2.1, g5.2.2.1, g5.2.2.2.1, g5.2.2.2.2.1, g5.2.2.2.2.2.1, g5.2.2.2.2.2.2.1, g5.2.2.2.2.2.2.2.1, g5.2.2.2.2.2.2.2.2.1, rfl⟩
  · rw [hf 173 (by unfold rK; omega) (by decide), hf 174 (by unfold rK; omega) (by decide), hn 10 (by decide), hn 11 (by decide), hn 12 (by decide), hn 13 (by decide)]; exact g6
  · rw [hf 166 (by unfold rK; omega) (by decide), hn _ (by omega)]; exact g7 k k0 k1
  · rw [hn 6 (by decide), hf 143 (by unfold rK; omega) (by decide)]
    intro i i0 i1
    have : xT x' i = xT x i := by unfold xT; rw [eT]
    rw [this]; exact g8 i i0 i1
theorem R_writes {x : ST} {V : ASt} (h : rI x V) (h9 : 0 ≤ xN x 9 ∧ xN x 9 < 44) (v : Int) : Tr (f_M_writes S0 V 142 v) (fun _ U => rI (xPi x v) U ∧ frM V U) := by
  have h' := h
  obtain ⟨b, g1, g2, g3, g4, g5, g6, g7, g8, g9, -⟩ := h
  have e9 := g5.2.2.2.2.2.2.2.2.2
  unfold f_M_writes
  rw [gd_t O_142, e9, F_142_79, A_197, gd_in (by omega) (by omega), and32_255]
  refine Tr_set (fun V1 n1e n1 => ?_)
  rw [n1 142 (by decide), e9, w32_id (by omega) (by omega)]
  refine Tr_set (fun V2 e2 n2 => Tr_ret ⟨rI_im h' rfl rfl rfl rfl (fun k hk => xPi_n x v hk) (fun a ha hn => by rw [n2 a (by unfold rK at ha; omega), n1 a hn]) (fun k _ hk => by rw [e2, upI_n _ _ hk, n1 142 (by decide)]) (by rw [e2, upI_s, xPi_9]) (fun i i0 i1 => ?_), fun a ha => by rw [n2 a (by omega), n1 a (by omega)]⟩)
  rw [xPi_9] at i1
  rw [xPi_I, n2 197 (by decide), n1e]
  by_cases z : i = xN x 9
  · rw [if_pos z, z, upI_s]
  · rw [if_neg z, upI_n _ _ z]; exact g9 i i0 (by omega)
theorem imP_s (s : SL) : ∀ (n : Nat) (p : Int) (x : ST), xN (imP s n p x) 9 = xN x 9 + 3 * n ∧ (∀ k, k ≠ 9 → xN (imP s n p x) k = xN x k) ∧ xG (imP s n p x) = xG x ∧ xS (imP s n p x) = xS x := by
  intro n
  induction n with
  | zero => intro p x; exact ⟨by rw [imP]; omega, fun _ _ => rfl, rfl, rfl⟩
  | succ n ih =>
    intro p x
    rw [imP]
    obtain ⟨a, b, c, d⟩ := ih (p + 1) (xPi (xPi (xPi x (sA s p)) (sX s (sA s p) + 2 * sT s (sA s p))) (sN s (sA s p)))
    refine ⟨?_, fun k hk => ?_, c, d⟩
    · rw [a, xPi_9, xPi_9, xPi_9]; omega
    · rw [b k hk, xPi_n _ _ hk, xPi_n _ _ hk, xPi_n _ _ hk]
theorem R_image {x : ST} {V : ASt} (hG : GOK (xG x)) (hs : SOK (xG x) (xS x)) (h : rI x V) (h0 : 0 ≤ xN x 0 ∧ xN x 0 ≤ 1000000) : Tr (f_M_image S0 V 142) (fun r U => r = xN (xImg x) 9 ∧ rI (xImg x) U ∧ frM V U) := by
  have hR := hG.2.2.1
  unfold f_M_image xImg
  rw [gd_t O_142]
  refine Tr_set (fun V1 e1 n1 => ?_)
  have h' := h
  obtain ⟨b, g1, -⟩ := h
  have r1 : rI (uN x 9 0) V1 := rI_im h' rfl rfl rfl rfl (fun k hk => uN_n x _ hk) (fun a ha _ => n1 a (by unfold rK at ha; omega)) (fun k _ hk => by rw [e1, upI_n _ _ hk]) (by rw [e1, upI_s, uN_s]) (fun i i0 i1 => by rw [uN_s] at i1; omega)
  have r1' := r1
  obtain ⟨b1, q1, -⟩ := r1
  refine Tr_bq (M_rulesAll q1) ?_
  refine Tr_bnd (R_writes r1' (by rw [uN_s]; omega) _) ?_
  rintro _ V2 ⟨r2, f2⟩
  have fV2 : frM V V2 := frM_tr (fun a ha => n1 a (by omega)) f2
  have b0 : imB (uN x 9 0) := fun i i0 i1 => by rw [uN_s] at i1; omega
  have hfin : ∀ (y : ST) (W : ASt), rI y W → frM V W → imB y → 0 ≤ xN y 9 → xN y 9 ≤ 37 → xN y 0 = xN x 0 → xG y = xG x → Tr (bnd (f_M_writes S0 W 142 (shr32 (W 142 48) 8)) (fun r17 V18 => bnd (f_M_writes S0 V18 142 (V18 142 48)) (fun r20 V21 => gd (isA S0 (aF S0 142 49) 0 0) (bnd (f_M_writes S0 V21 142 (V21 (aF S0 142 49) 0)) (fun r24 V25 => gd (isA S0 (aF S0 142 49) 0 1) (bnd (f_M_writes S0 V25 142 (V25 (aF S0 142 49) 1)) (fun r28 V29 => gd (isA S0 (aF S0 142 50) 0 0) (bnd (f_M_writes S0 V29 142 (V29 (aF S0 142 50) 0)) (fun r32 V33 => gd (isA S0 (aF S0 142 50) 0 1) (bnd (f_M_writes S0 V33 142 (V33 (aF S0 142 50) 1)) (fun r36 V37 => b_M_image_L148 S0 142 FU V37 37 0))))))))))) (fun r U => r = xN (imC (imQ y)) 9 ∧ rI (imC (imQ y)) U ∧ frM V U) := by
    intro y W hy fy by0 y0 y1 yn yG
    have k0 : ∀ z Z, rI z Z → Z 142 48 = xN z 0 ∧ Z 173 0 = xN z 10 ∧ Z 173 1 = xN z 11 ∧ Z 174 0 = xN z 12 ∧ Z 174 1 = xN z 13 := fun z Z hz => by
      obtain ⟨bb, a1, a2, a3, a4, a5, a6, -⟩ := hz
      exact ⟨a5.1, a6⟩
    have es : shr32 (W 142 48) 8 = xN y 0 / 256 := by
      rw [(k0 y W hy).1]
      have := shr32_e (xN y 0) ⟨by omega, by omega⟩ 8 (by decide)
      rw [show ((2 : Int) ^ 8) = 256 from rfl] at this
      exact this
    unfold imQ
    rw [es]
    refine Tr_bnd (R_writes hy (by omega) _) ?_
    rintro _ W1 ⟨w1, z1⟩
    rw [(k0 _ W1 w1).1, xPi_n _ _ (by decide)]
    refine Tr_bnd (R_writes w1 (by rw [xPi_9]; omega) _) ?_
    rintro _ W2 ⟨w2, z2⟩
    rw [F_142_49, A_173, gd_in (by omega) (by omega), (k0 _ W2 w2).2.1, xPi_n _ _ (by decide), xPi_n _ _ (by decide)]
    refine Tr_bnd (R_writes w2 (by rw [xPi_9, xPi_9]; omega) _) ?_
    rintro _ W3 ⟨w3, z3⟩
    rw [A_173, gd_in (by omega) (by omega), (k0 _ W3 w3).2.2.1, xPi_n _ _ (by decide), xPi_n _ _ (by decide), xPi_n _ _ (by decide)]
    refine Tr_bnd (R_writes w3 (by rw [xPi_9, xPi_9, xPi_9]; omega) _) ?_
    rintro _ W4 ⟨w4, z4⟩
    rw [F_142_50, A_174, gd_in (by omega) (by omega), (k0 _ W4 w4).2.2.2.1, xPi_n _ _ (by decide), xPi_n _ _ (by decide), xPi_n _ _ (by decide), xPi_n _ _ (by decide)]
    refine Tr_bnd (R_writes w4 (by rw [xPi_9, xPi_9, xPi_9, xPi_9]; omega) _) ?_
    rintro _ W5 ⟨w5, z5⟩
    rw [A_174, gd_in (by omega) (by omega), (k0 _ W5 w5).2.2.2.2, xPi_n _ _ (by decide), xPi_n _ _ (by decide), xPi_n _ _ (by decide), xPi_n _ _ (by decide), xPi_n _ _ (by decide)]
    refine Tr_bnd (R_writes w5 (by rw [xPi_9, xPi_9, xPi_9, xPi_9, xPi_9]; omega) _) ?_
    rintro _ W6 ⟨w6, z6⟩
    have fW6 : frM V W6 := frM_tr fy (frM_tr z1 (frM_tr z2 (frM_tr z3 (frM_tr z4 (frM_tr z5 z6)))))
    have b6 := imB_p (imB_p (imB_p (imB_p (imB_p (imB_p by0 (xN y 0 / 256)) (xN y 0)) (xN y 10)) (xN y 11)) (xN y 12)) (xN y 13)
    have n6 : xN (xPi (xPi (xPi (xPi (xPi (xPi y (xN y 0 / 256)) (xN y 0)) (xN y 10)) (xN y 11)) (xN y 12)) (xN y 13)) 9 = xN y 9 + 6 := by rw [xPi_9, xPi_9, xPi_9, xPi_9, xPi_9, xPi_9]; omega
    generalize xPi (xPi (xPi (xPi (xPi (xPi y (xN y 0 / 256)) (xN y 0)) (xN y 10)) (xN y 11)) (xN y 12)) (xN y 13) = u at *
    have w6' := w6
    obtain ⟨bb, a1, a2, a3, a4, a5, a6, a7, a8, a9, -⟩ := w6
    have e80 := a5.2.2.2.2.2.2.2.2.2
    have hl : ∀ (n : Nat) (i c : Int), 0 ≤ i → i ≤ xN u 9 → xN u 9 - i < n → 0 ≤ c → c < 223 → chkF u.2.2.2.2.2 (xN u 9 - i).toNat i c = chkF u.2.2.2.2.2 (xN u 9).toNat 0 37 → Tr (b_M_image_L148 S0 142 n W6 c i) (fun r U => r = xN (imC u) 9 ∧ rI (imC u) U ∧ frM V U) := by
      intro n
      induction n with
      | zero => intro i c h1 h2 h3; omega
      | succ n ih =>
        intro i c i0 i1 hn c0 c1 hc
        rw [b_M_image_L148, e80]
        refine Tr_if (fun d => ?_) (fun d => ?_)
        · rw [show (xN u 9 - i).toNat = 0 by omega, chkF] at hc
          rw [hc]
          refine Tr_bnd (R_writes w6' (by omega) _) ?_
          rintro _ W7 ⟨w7, z7⟩
          obtain ⟨b7, c1', c2', c3', c4', c5', -⟩ := id w7
          exact Tr_ret ⟨c5'.2.2.2.2.2.2.2.2.2, w7, frM_tr fW6 z7⟩
        · have hb := b6 i i0 (by omega)
          rw [F_142_79, A_197, gd_in (by omega) (by omega), a9 i i0 (by omega), w32_id (x := 7 * c) (by omega) (by omega), w32_id (x := 7 * c + xI u i) (by omega) (by omega), tmod_e (by omega), w32_id (x := i + 1) (by omega) (by omega)]
          rw [show (xN u 9 - i).toNat = (xN u 9 - (i + 1)).toNat + 1 by omega, chkF] at hc
          exact ih (i + 1) _ (by omega) (by omega) (by omega) (by omega) (by omega) hc
    exact hl FU 0 37 (by omega) (by omega) (by rw [FU_v]; omega) (by omega) (by omega) (by rw [show xN u 9 - 0 = xN u 9 by omega])
  have hl : ∀ (n : Nat) (p : Int) (y : ST) (W : ASt), 0 ≤ p → p ≤ qR (xG x) → qR (xG x) - p < n → rI y W → frM V W → imB y → xN y 9 = 1 + 3 * p → xN y 0 = xN x 0 → xG y = xG x → xS y = xS x → imP (xS x) (qR (xG x) - p).toNat p y = imP (xS x) (qR (xG x)).toNat 0 (xPi (uN x 9 0) (qR (xG x))) →
      Tr (b_M_image_L15 S0 142 n W p) (fun r U => r = xN (imC (imQ (imP (xS x) (qR (xG x)).toNat 0 (xPi (uN x 9 0) (qR (xG x)))))) 9 ∧ rI (imC (imQ (imP (xS x) (qR (xG x)).toNat 0 (xPi (uN x 9 0) (qR (xG x)))))) U ∧ frM V U) := by
    intro n
    induction n with
    | zero => intro p y W h1 h2 h3; omega
    | succ n ih =>
      intro p y W p0 p1 hn hy fy by0 y9 yn yG yS hi
      have hy' := hy
      obtain ⟨bb, a1, a2, a3, a4, -⟩ := hy
      rw [yG] at a1 a4
      rw [yS] at a4
      rw [b_M_image_L15]
      refine Tr_bq (M_rulesAll a1) ?_
      refine Tr_if (fun c => ?_) (fun c => ?_)
      · rw [show (qR (xG x) - p).toNat = 0 by omega, imP] at hi
        rw [← hi]
        exact hfin y W hy' fy by0 (by omega) (by omega) yn yG
      · have hr := a4 p p0 (by omega)
        have hA := hs.1 p p0 (by omega)
        have hss := hs.2.2 _ hA.1 hA.2
        rw [show (qR (xG x) - p).toNat = (qR (xG x) - (p + 1)).toNat + 1 by omega, imP] at hi
        rw [F_142_44, A_169, gd_in (by omega) (by omega), hr.1]
        refine Tr_bnd (R_writes hy' (by omega) _) ?_
        rintro _ W1 ⟨w1, z1⟩
        have e1 : ∀ Z z, rI z Z → xG z = xG x → xS z = xS x → Z 170 (sA (xS x) p) = sX (xS x) (sA (xS x) p) ∧ Z 171 (sA (xS x) p) = sT (xS x) (sA (xS x) p) ∧ Z 172 (sA (xS x) p) = sN (xS x) (sA (xS x) p) := fun Z z hz zG zS => by
          obtain ⟨b2, c1, c2, c3, c4, -⟩ := hz
          rw [zG, zS] at c4
          exact (c4 _ hA.1 hA.2).2
        have ew := e1 W1 _ w1 yG yS
        rw [F_142_45, A_170, gd_in (by omega) (by omega), ew.1]
        have hJ : Tr (b_M_image_J50 S0 (b_M_image_L15 S0 142 n) W1 142 p (sA (xS x) p) 142 (sX (xS x) (sA (xS x) p))) (fun r U => r = xN (imC (imQ (imP (xS x) (qR (xG x)).toNat 0 (xPi (uN x 9 0) (qR (xG x)))))) 9 ∧ rI (imC (imQ (imP (xS x) (qR (xG x)).toNat 0 (xPi (uN x 9 0) (qR (xG x)))))) U ∧ frM V U) := by
          unfold b_M_image_J50
          rw [F_142_46, A_171, gd_in (by omega) (by omega), ew.2.1]
          have hJ2 : ∀ f, f = 2 * sT (xS x) (sA (xS x) p) → Tr (b_M_image_J64 S0 (b_M_image_L15 S0 142 n) W1 142 p (sA (xS x) p) 142 (sX (xS x) (sA (xS x) p)) f) (fun r U => r = xN (imC (imQ (imP (xS x) (qR (xG x)).toNat 0 (xPi (uN x 9 0) (qR (xG x)))))) 9 ∧ rI (imC (imQ (imP (xS x) (qR (xG x)).toNat 0 (xPi (uN x 9 0) (qR (xG x)))))) U ∧ frM V U) := by
            intro f hf
            unfold b_M_image_J64
            rw [gd_t O_142, w32_id (by omega) (by omega), hf]
            refine Tr_bnd (R_writes w1 (by rw [xPi_9]; omega) _) ?_
            rintro _ W2 ⟨w2, z2⟩
            rw [F_142_47, A_172, gd_in (by omega) (by omega), (e1 W2 _ w2 yG yS).2.2]
            refine Tr_bnd (R_writes w2 (by rw [xPi_9, xPi_9]; omega) _) ?_
            rintro _ W3 ⟨w3, z3⟩
            rw [w32_id (x := p + 1) (by omega) (by omega)]
            exact ih (p + 1) _ W3 (by omega) (by omega) (by omega) w3 (frM_tr fy (frM_tr z1 (frM_tr z2 z3))) (imB_p (imB_p (imB_p by0 _) _) _) (by rw [xPi_9, xPi_9, xPi_9]; omega) (by rw [xPi_n _ _ (by decide), xPi_n _ _ (by decide), xPi_n _ _ (by decide)]; exact yn) yG yS hi
          refine Tr_if (fun e => ?_) (fun e => ?_)
          · exact hJ2 0 (by omega)
          · exact hJ2 2 (by omega)
        rcases hss.1 with e | e
        · rw [e] at hJ ⊢; exact Tr_t rfl hJ
        · rw [e] at hJ ⊢; exact Tr_f (by decide) hJ
  refine hl FU 0 (xPi (uN x 9 0) (qR (xG x))) V2 (by omega) (by omega) (by rw [FU_v]; omega) r2 fV2 (imB_p b0 _) ?_ ?_ rfl rfl ?_
  · rw [xPi_9, uN_s]; omega
  · rw [xPi_n _ _ (by decide), uN_n _ _ (by decide)]
  · rw [show qR (xG x) - 0 = qR (xG x) by omega]
-- ---- the class
theorem dIt_im {x x' : ST} {t : Int} {V U : ASt} (h : dIt x t V) (hl : xN x 1 ≤ 40) (e1 : x'.1 = x.1) (e2 : x'.2.1 = x.2.1) (eH : x'.2.2.2.1 = x.2.2.2.1) (eT : x'.2.2.2.2.1 = x.2.2.2.2.1) (hn : ∀ k, k ≠ 9 → xN x' k = xN x k) (hf : ∀ a, a ≠ 113 → a ≠ 114 → U a = V a) (hI : dIm x' U) : dIt x' t U := by
  have h' := h
  obtain ⟨h0, h1, h2, h3, h4, h5, h6, h7, h8, h9, h10, h11, h12, h13, h14⟩ := h
  have eh : ∀ i, xH x' i = xH x i := fun i => by unfold xH; rw [eH]
  have eG : xG x' = xG x := e1
  refine dIt_g h' e1 e2 (fun i _ => eh i) (hn 1 (by decide)) hl (fun a ha => hf a (by omega) (by omega)) ?_ ?_ ?_ ?_ hI ?_
  · unfold dA at *; rw [hf 0 (by decide) (by decide), hn 0 (by decide)]; exact h1
  · have := dSp_k (U := U) (congrFun (hf 43 (by decide) (by decide)) 0) (hf 44 (by decide) (by decide)) (hf 45 (by decide) (by decide)) h10
    unfold dSp at *
    rw [eG, hn 2 (by decide), eh]; exact this
  · unfold dMa at *; rw [hf 109 (by decide) (by decide), hn 3 (by decide), hn 4 (by decide), hn 5 (by decide)]; exact h11
  · unfold dTp at *
    rw [hf 1 (by decide) (by decide), hf 2 (by decide) (by decide), hn 6 (by decide)]
    refine ⟨h12.1, fun i i0 i1 => ?_⟩
    have : xT x' i = xT x i := by unfold xT; rw [eT]
    rw [this]; exact h12.2 i i0 i1
  · unfold dMi at *
    rw [hf 35 (by decide) (by decide), hf 112 (by decide) (by decide), hf 111 (by decide) (by decide), hf 115 (by decide) (by decide), hf 108 (by decide) (by decide), hf 37 (by decide) (by decide), hf 6 (by decide) (by decide), hf 22 (by decide) (by decide), hn 7 (by decide), hn 8 (by decide), hn 10 (by decide), hn 11 (by decide), hn 12 (by decide), hn 13 (by decide)]
    exact ⟨h14.1, h14.2.1, h14.2.2.1, h14.2.2.2.1, h14.2.2.2.2.1, h14.2.2.2.2.2.1, fun j j0 j1 => by rw [hn _ (by omega)]; exact h14.2.2.2.2.2.2.1 j j0 j1, h14.2.2.2.2.2.2.2⟩
theorem D_writes {x : ST} {t : Int} {V : ASt} (h : dIt x t V) (hl : xN x 1 ≤ 40) (h9 : 0 ≤ xN x 9 ∧ xN x 9 < 44) (v : Int) : Tr (f_Bytes_put S0 V 113 v) (fun _ U => dIt (xPi x v) t U ∧ frX V U) := by
  have hI := h.2.2.2.2.2.2.2.2.2.2.2.2.2.1
  unfold f_Bytes_put
  rw [gd_t O_113, hI.1, if_neg (by omega), F_113_1, gd_t O_114, L_114, if_neg (by omega), A_114, gd_in (by omega) (by omega), and32_255]
  refine Tr_set (fun V1 e1 n1 => ?_)
  rw [n1 113 (by decide), hI.1, w32_id (by omega) (by omega)]
  refine Tr_set (fun V2 e2 n2 => Tr_ret ⟨dIt_im h hl rfl rfl rfl rfl (fun k hk => xPi_n x _ hk) (fun a a1 a2 => by rw [n2 a a1, n1 a a2]) ⟨by rw [e2, upI_s, xPi_9], fun i i0 i1 => ?_⟩, fun a ha => by rw [n2 a (by omega), n1 a (by omega)]⟩)
  rw [xPi_9] at i1
  rw [xPi_I, n2 114 (by decide), e1]
  by_cases z : i = xN x 9
  · rw [if_pos z, z, upI_s]
  · rw [if_neg z, upI_n _ _ z]; exact hI.2 i i0 (by omega)
theorem Bt_check {I : Int → Int} {a r n m : Int} {V : ASt} (hO : isO S0 a 0 = true) (hF : aF S0 a 1 = r) (hr : isO S0 r 100 = true) (hL : aLn S0 r = n) (hA : ∀ i, isA S0 r 0 i = inS n i) (hm : 0 ≤ m ∧ m ≤ n ∧ n ≤ 1800) (hb : ∀ i, 0 ≤ i → i < m → 0 ≤ I i ∧ I i ≤ 255) (hV : ∀ i, 0 ≤ i → i < m → V r i = I i) : f_Bytes_checkOfFirst S0 V a m = some (chkF I m.toNat 0 37, V) := by
  unfold f_Bytes_checkOfFirst
  rw [gd_t hO]
  have hl : ∀ (k : Nat) (i c : Int), 0 ≤ i → i ≤ m → m - i < k → 0 ≤ c → c < 223 → chkF I (m - i).toNat i c = chkF I m.toNat 0 37 → b_Bytes_checkOfFirst_L5 S0 a m k V c i = some (chkF I m.toNat 0 37, V) := by
    intro k
    induction k with
    | zero => intro i c h1 h2 h3; omega
    | succ k ih =>
      intro i c i0 i1 hk c0 c1 hc
      rw [b_Bytes_checkOfFirst_L5]
      by_cases d : m ≤ i
      · rw [show (m - i).toNat = 0 by omega, chkF] at hc
        rw [if_pos d, hc]
      · have h2 := hb i i0 (by omega)
        rw [show (m - i).toNat = (m - (i + 1)).toNat + 1 by omega, chkF] at hc
        rw [if_neg d, hF, gd_t hr, hL, if_neg (by omega), hA, gd_in (by omega) (by omega), hV i i0 (by omega), w32_id (x := 7 * c) (by omega) (by omega), w32_id (x := 7 * c + I i) (by omega) (by omega), tmod_e (by omega), w32_id (x := i + 1) (by omega) (by omega)]
        exact ih (i + 1) _ (by omega) (by omega) (by omega) (by omega) (by omega) hc
  exact hl FU 0 37 (by omega) (by omega) (by rw [FU_v]; omega) (by omega) (by omega) (by rw [show m - 0 = m by omega])
theorem D_image {x : ST} {t : Int} {V : ASt} (hG : GOK (xG x)) (hs : SOK (xG x) (xS x)) (h : dIt x t V) (hl40 : xN x 1 ≤ 40) (h0 : 0 ≤ xN x 0 ∧ xN x 0 ≤ 1000000) : Tr (f_SG_image S0 V 0) (fun r U => r = xN (xImg x) 9 ∧ dIt (xImg x) t U ∧ frX V U) := by
  have hR := hG.2.2.1
  have ha : isSl 41 := Or.inl rfl
  unfold f_SG_image xImg
  rw [gd_t O_0, F_0_18, gd_t O_113]
  refine Tr_set (fun V1 e1 n1 => ?_)
  have d1 : dIt (uN x 9 0) t V1 := dIt_im h hl40 rfl rfl rfl rfl (fun k hk => uN_n x _ hk) (fun a a1 _ => n1 a a1) ⟨by rw [e1, upI_s, uN_s], fun i i0 i1 => by rw [uN_s] at i1; omega⟩
  have hn1 : ∀ y v, xN y 1 ≤ 40 → xN (xPi y v) 1 ≤ 40 := fun y v hy => by rw [xPi_n _ _ (by decide)]; exact hy
  have l1 : xN (uN x 9 0) 1 ≤ 40 := by rw [uN_n _ _ (by decide)]; exact hl40
  have e41 : V1 41 0 = qR (xG x) := (Q_is d1).1
  rw [F_0_4, gd_t O_41, e41]
  refine Tr_bnd (D_writes d1 l1 (by rw [uN_s]; omega) _) ?_
  rintro _ V2 ⟨d2, f2⟩
  have fV2 : frX V V2 := frX_tr (fun a ha => n1 a (by omega)) f2
  have b0 : imB (uN x 9 0) := fun i i0 i1 => by rw [uN_s] at i1; omega
  have hl : ∀ (n : Nat) (p : Int) (y : ST) (W : ASt), 0 ≤ p → p ≤ qR (xG x) → qR (xG x) - p < n → dIt y t W → frX V W → imB y → xN y 9 = 1 + 3 * p → xN y 0 = xN x 0 → xN y 1 ≤ 40 → xG y = xG x → xS y = xS x → imP (xS x) (qR (xG x) - p).toNat p y = imP (xS x) (qR (xG x)).toNat 0 (xPi (uN x 9 0) (qR (xG x))) →
      Tr (b_SG_image_L24 S0 0 n W p) (fun r U => r = xN (imC (imQ (imP (xS x) (qR (xG x)).toNat 0 (xPi (uN x 9 0) (qR (xG x)))))) 9 ∧ dIt (imC (imQ (imP (xS x) (qR (xG x)).toNat 0 (xPi (uN x 9 0) (qR (xG x)))))) t U ∧ frX V U) := by
    intro n
    induction n with
    | zero => intro p y W h1 h2 h3; omega
    | succ n ih =>
      intro p y W p0 p1 hn hy fy by0 y9 yn yl yG yS hi
      have ds : dS (xG x) (xS x) 41 W := by
        have := Q_is hy
        rw [yG, yS] at this
        exact this
      rw [b_SG_image_L24, F_0_4, gd_t O_41, ds.1]
      refine Tr_if (fun c => ?_) (fun c => ?_)
      · rw [show (qR (xG x) - p).toNat = 0 by omega, imP] at hi
        rw [← hi]
        have k0 : ∀ z Z, dIt z t Z → Z 0 17 = xN z 0 ∧ Z 112 0 = xN z 10 ∧ Z 112 1 = xN z 11 ∧ Z 111 0 = xN z 12 ∧ Z 111 1 = xN z 13 := fun z Z hz => by
          have h14 := hz.2.2.2.2.2.2.2.2.2.2.2.2.2.2
          exact ⟨hz.2.1.2.2, h14.2.2.1, h14.2.2.2.1, h14.2.2.2.2.1, h14.2.2.2.2.2.1⟩
        have es : shr32 (W 0 17) 8 = xN y 0 / 256 := by
          rw [(k0 y W hy).1]
          have := shr32_e (xN y 0) ⟨by omega, by omega⟩ 8 (by decide)
          rw [show ((2 : Int) ^ 8) = 256 from rfl] at this
          exact this
        unfold imQ
        rw [F_0_18, gd_t O_113, es]
        refine Tr_bnd (D_writes hy yl (by omega) _) ?_
        rintro _ W1 ⟨w1, z1⟩
        rw [(k0 _ W1 w1).1, xPi_n _ _ (by decide)]
        refine Tr_bnd (D_writes w1 (hn1 _ _ yl) (by rw [xPi_9]; omega) _) ?_
        rintro _ W2 ⟨w2, z2⟩
        rw [F_0_16, A_112, gd_in (by omega) (by omega), (k0 _ W2 w2).2.1, xPi_n _ _ (by decide), xPi_n _ _ (by decide)]
        refine Tr_bnd (D_writes w2 (hn1 _ _ (hn1 _ _ yl)) (by rw [xPi_9, xPi_9]; omega) _) ?_
        rintro _ W3 ⟨w3, z3⟩
        rw [A_112, gd_in (by omega) (by omega), (k0 _ W3 w3).2.2.1, xPi_n _ _ (by decide), xPi_n _ _ (by decide), xPi_n _ _ (by decide)]
        refine Tr_bnd (D_writes w3 (hn1 _ _ (hn1 _ _ (hn1 _ _ yl))) (by rw [xPi_9, xPi_9, xPi_9]; omega) _) ?_
        rintro _ W4 ⟨w4, z4⟩
        rw [F_0_15, A_111, gd_in (by omega) (by omega), (k0 _ W4 w4).2.2.2.1, xPi_n _ _ (by decide), xPi_n _ _ (by decide), xPi_n _ _ (by decide), xPi_n _ _ (by decide)]
        refine Tr_bnd (D_writes w4 (hn1 _ _ (hn1 _ _ (hn1 _ _ (hn1 _ _ yl)))) (by rw [xPi_9, xPi_9, xPi_9, xPi_9]; omega) _) ?_
        rintro _ W5 ⟨w5, z5⟩
        rw [A_111, gd_in (by omega) (by omega), (k0 _ W5 w5).2.2.2.2, xPi_n _ _ (by decide), xPi_n _ _ (by decide), xPi_n _ _ (by decide), xPi_n _ _ (by decide), xPi_n _ _ (by decide)]
        refine Tr_bnd (D_writes w5 (hn1 _ _ (hn1 _ _ (hn1 _ _ (hn1 _ _ (hn1 _ _ yl))))) (by rw [xPi_9, xPi_9, xPi_9, xPi_9, xPi_9]; omega) _) ?_
        rintro _ W6 ⟨w6, z6⟩
        have fW6 : frX V W6 := frX_tr fy (frX_tr z1 (frX_tr z2 (frX_tr z3 (frX_tr z4 (frX_tr z5 z6)))))
        have b6 := imB_p (imB_p (imB_p (imB_p (imB_p (imB_p by0 (xN y 0 / 256)) (xN y 0)) (xN y 10)) (xN y 11)) (xN y 12)) (xN y 13)
        have n6 : xN (xPi (xPi (xPi (xPi (xPi (xPi y (xN y 0 / 256)) (xN y 0)) (xN y 10)) (xN y 11)) (xN y 12)) (xN y 13)) 9 = xN y 9 + 6 := by rw [xPi_9, xPi_9, xPi_9, xPi_9, xPi_9, xPi_9]; omega
        have l6 := hn1 _ (xN y 13) (hn1 _ (xN y 12) (hn1 _ (xN y 11) (hn1 _ (xN y 10) (hn1 _ (xN y 0) (hn1 _ (xN y 0 / 256) yl)))))
        generalize xPi (xPi (xPi (xPi (xPi (xPi y (xN y 0 / 256)) (xN y 0)) (xN y 10)) (xN y 11)) (xN y 12)) (xN y 13) = u at *
        have hI := w6.2.2.2.2.2.2.2.2.2.2.2.2.2.1
        rw [hI.1]
        refine Tr_bq (Bt_check (I := u.2.2.2.2.2) O_113 F_113_1 O_114 L_114 A_114 ⟨by omega, by omega, by omega⟩ (fun i i0 i1 => b6 i i0 i1) (fun i i0 i1 => hI.2 i i0 i1)) ?_
        refine Tr_bnd (D_writes w6 l6 (by omega) _) ?_
        rintro _ W7 ⟨w7, z7⟩
        exact Tr_ret ⟨w7.2.2.2.2.2.2.2.2.2.2.2.2.2.1.1, w7, frX_tr fW6 z7⟩
      · have hA := hs.1 p p0 (by omega)
        have ds' : ∀ Z z, dIt z t Z → xG z = xG x → xS z = xS x → dS (xG x) (xS x) 41 Z := fun Z z hz zG zS => by
          have := Q_is hz
          rw [zG, zS] at this
          exact this
        rw [show (qR (xG x) - p).toNat = (qR (xG x) - (p + 1)).toNat + 1 by omega, imP] at hi
        refine Tr_bq (S_ruleAt hG hs ha ds p0 (by omega)) ?_
        rw [F_0_18, gd_t O_113]
        refine Tr_bnd (D_writes hy yl (by omega) _) ?_
        rintro _ W1 ⟨w1, z1⟩
        refine Tr_bq (S_flagsAt hG hs ha (ds' W1 _ w1 yG yS) p0 (by omega)) ?_
        rw [show 2 * sT (xS x) (sA (xS x) p) + sX (xS x) (sA (xS x) p) = sX (xS x) (sA (xS x) p) + 2 * sT (xS x) (sA (xS x) p) by omega]
        refine Tr_bnd (D_writes w1 (hn1 _ _ yl) (by rw [xPi_9]; omega) _) ?_
        rintro _ W2 ⟨w2, z2⟩
        refine Tr_bq (S_stepAt hG hs ha (ds' W2 _ w2 yG yS) p0 (by omega)) ?_
        refine Tr_bnd (D_writes w2 (hn1 _ _ (hn1 _ _ yl)) (by rw [xPi_9, xPi_9]; omega) _) ?_
        rintro _ W3 ⟨w3, z3⟩
        rw [w32_id (x := p + 1) (by omega) (by omega)]
        exact ih (p + 1) _ W3 (by omega) (by omega) (by omega) w3 (frX_tr fy (frX_tr z1 (frX_tr z2 z3))) (imB_p (imB_p (imB_p by0 _) _) _) (by rw [xPi_9, xPi_9, xPi_9]; omega) (by rw [xPi_n _ _ (by decide), xPi_n _ _ (by decide), xPi_n _ _ (by decide)]; exact yn) (hn1 _ _ (hn1 _ _ (hn1 _ _ yl))) yG yS hi
  refine hl FU 0 (xPi (uN x 9 0) (qR (xG x))) V2 (by omega) (by omega) (by rw [FU_v]; omega) d2 fV2 (imB_p b0 _) ?_ ?_ (hn1 _ _ l1) rfl rfl ?_
  · rw [xPi_9, uN_s]; omega
  · rw [xPi_n _ _ (by decide), uN_n _ _ (by decide)]
  · rw [show qR (xG x) - 0 = qR (xG x) by omega]
