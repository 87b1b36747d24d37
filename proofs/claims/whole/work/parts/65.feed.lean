/-! bytes put on the tape; octets; the spring; letters -/
def xPb (x : ST) (c : Int) : ST := uN (uT x (upI x.2.2.2.2.1 (xN x 6) c)) 6 (xN x 6 + 1)
def bt (v : Int) (s : Nat) : Int := v / 2 ^ s % 256
def xFd (x : ST) (v : Int) : ST := xPb (xPb (xPb (xPb x (bt v 24)) (bt v 16)) (bt v 8)) (bt v 0)
theorem xPb_n (x : ST) (c : Int) {k : Int} (h : k ≠ 6) : xN (xPb x c) k = xN x k := uN_n (uT x _) _ h
theorem xPb_6 (x : ST) (c : Int) : xN (xPb x c) 6 = xN x 6 + 1 := uN_s (uT x _) _ _
theorem xPb_T (x : ST) (c i : Int) : xT (xPb x c) i = if i = xN x 6 then c else xT x i := by
  show upI x.2.2.2.2.1 (xN x 6) c i = _
  unfold upI xT
  rfl
theorem xFd_6 (x : ST) (v : Int) : xN (xFd x v) 6 = xN x 6 + 4 := by
  unfold xFd
  rw [xPb_6, xPb_6, xPb_6, xPb_6]; omega
theorem xFd_n (x : ST) (v : Int) {k : Int} (h : k ≠ 6) : xN (xFd x v) k = xN x k := by
  unfold xFd
  rw [xPb_n _ _ h, xPb_n _ _ h, xPb_n _ _ h, xPb_n _ _ h]
theorem rI_pb {x : ST} {V U : ASt} {c : Int} (h : rI x V) (e1 : U 142 = upI (V 142) 1 (xN x 6 + 1)) (e2 : U 143 = upI (V 143) (xN x 6) c) (n : ∀ b, b ≠ 142 → b ≠ 143 → U b = V b) : rI (xPb x c) U := by
  have h' := h
  obtain ⟨b, g1, g2, g3, g4, g5, g6, g7, g8, -⟩ := h
  refine rI_tp h' rfl rfl rfl rfl (fun k hk => xPb_n x c hk) (fun a ha hn => n a (by unfold rK at ha; omega) hn) (fun k _ hk => by rw [e1, upI_n _ _ hk]) (by rw [e1, upI_s, xPb_6]) (fun i i0 i1 => ?_)
  rw [xPb_6] at i1
  rw [xPb_T, e2]
  by_cases z : i = xN x 6
  · rw [if_pos z, z, upI_s]
  · rw [if_neg z, upI_n _ _ z]; exact g8 i i0 (by omega)
theorem R_put {x : ST} {V : ASt} {v : Int} (h : rI x V) (hv : r32 v) (h6 : 0 ≤ xN x 6 ∧ xN x 6 + 4 ≤ 1800) : Tr (f_M_put S0 V 142 v) (fun _ U => rI (xFd x v) U ∧ frM V U) := by
  have st : ∀ (y : ST) (U : ASt) (s : Nat) (n : Nat) (Q : Int → ASt → Prop), s < 32 → 0 ≤ xN y 6 → xN y 6 < 1800 → rI y U → frM V U → (∀ W, rI (xPb y (bt v s)) W → frM V W → Tr (b_M_put_L3 S0 142 v n W (w32 ((s : Int) + -8))) Q) → Tr (b_M_put_L3 S0 142 v (n + 1) U s) Q := by
    intro y U s n Q hs y0 y1 hy fy hQ
    have hy' := hy
    obtain ⟨b, g1, g2, g3, g4, g5, -⟩ := hy
    have e6 := g5.2.2.2.2.2.2.1
    rw [b_M_put_L3, if_neg (show ¬ ((s : Int) < 0) by omega), F_142_0, A_143, e6, gd_in (by omega) (by omega), and32_255, shr32_e v hv s hs]
    refine Tr_set (fun V1 e1 n1 => ?_)
    rw [n1 142 (by decide), e6, w32_id (x := xN y 6 + 1) (by omega) (by omega)]
    refine Tr_set (fun V2 e2 n2 => ?_)
    exact hQ V2 (rI_pb hy' (by rw [e2, n1 142 (by decide)]) (by rw [n2 143 (by decide), e1]; rfl) (fun b b1 b2 => by rw [n2 b b1, n1 b b2])) (frM_tr fy (fun a ha => by rw [n2 a (by omega), n1 a (by omega)]))
  unfold f_M_put
  rw [gd_t O_142, show FU = 99995 + 1 + 1 + 1 + 1 + 1 from rfl, show (24 : Int) = ((24 : Nat) : Int) from rfl]
  refine st x V 24 _ _ (by decide) h6.1 (by omega) h (fun _ _ => rfl) (fun V1 h1 f1 => ?_)
  rw [show w32 (((24 : Nat) : Int) + -8) = ((16 : Nat) : Int) by decide]
  refine st _ V1 16 _ _ (by decide) (by rw [xPb_6]; omega) (by rw [xPb_6]; omega) h1 f1 (fun V2 h2 f2 => ?_)
  rw [show w32 (((16 : Nat) : Int) + -8) = ((8 : Nat) : Int) by decide]
  refine st _ V2 8 _ _ (by decide) (by rw [xPb_6, xPb_6]; omega) (by rw [xPb_6, xPb_6]; omega) h2 f2 (fun V3 h3 f3 => ?_)
  rw [show w32 (((8 : Nat) : Int) + -8) = ((0 : Nat) : Int) by decide]
  refine st _ V3 0 _ _ (by decide) (by rw [xPb_6, xPb_6, xPb_6]; omega) (by rw [xPb_6, xPb_6, xPb_6]; omega) h3 f3 (fun V4 h4 f4 => ?_)
  rw [show w32 (((0 : Nat) : Int) + -8) = -8 by decide, b_M_put_L3, if_pos (by decide)]
  exact Tr_ret ⟨h4, f4⟩
def sFeed (x : ST) : Int := if xN x 6 + 20 ≤ 1800 then xN x 6 + 20 else -1
def xFeed (x : ST) (a b c d e : Int) : ST := if xN x 6 + 20 ≤ 1800 then xFd (xFd (xFd (xFd (xFd x a) b) c) d) e else xRf x 0
theorem R_feed {x : ST} {V : ASt} {a b c d e : Int} (h : rI x V) (ha : r32 a) (hb : r32 b) (hc : r32 c) (hd : r32 d) (he : r32 e) (h6 : 0 ≤ xN x 6 ∧ xN x 6 ≤ 1800) (hr : 0 ≤ xN x 20 ∧ xN x 20 ≤ 100000) : Tr (f_M_feed S0 V 142 a b c d e) (fun r U => r = sFeed x ∧ rI (xFeed x a b c d e) U ∧ frM V U) := by
  have h' := h
  obtain ⟨bb, g1, g2, g3, g4, g5, -⟩ := h
  have e6 := g5.2.2.2.2.2.2.1
  unfold f_M_feed sFeed xFeed
  rw [gd_t O_142, e6, w32_id (by omega) (by omega)]
  by_cases z : xN x 6 + 20 ≤ 1800
  · rw [if_pos z, if_pos z, if_pos z]
    refine Tr_bnd (R_put h' ha (by omega)) ?_
    rintro _ V1 ⟨h1, f1⟩
    refine Tr_bnd (R_put h1 hb (by rw [xFd_6]; omega)) ?_
    rintro _ V2 ⟨h2, f2⟩
    refine Tr_bnd (R_put h2 hc (by rw [xFd_6, xFd_6]; omega)) ?_
    rintro _ V3 ⟨h3, f3⟩
    refine Tr_bnd (R_put h3 hd (by rw [xFd_6, xFd_6, xFd_6]; omega)) ?_
    rintro _ V4 ⟨h4, f4⟩
    refine Tr_bnd (R_put h4 he (by rw [xFd_6, xFd_6, xFd_6, xFd_6]; omega)) ?_
    rintro _ V5 ⟨h5, f5⟩
    refine Tr_ret ⟨?_, h5, frM_tr f1 (frM_tr f2 (frM_tr f3 (frM_tr f4 f5)))⟩
    obtain ⟨b5, k1, k2, k3, k4, k5, -⟩ := h5
    rw [k5.2.2.2.2.2.2.1, xFd_6, xFd_6, xFd_6, xFd_6, xFd_6]; omega
  · rw [if_neg z, if_neg z, if_neg z]
    refine Tr_bnd (R_refuses h' (k := 0) (by decide) hr) ?_
    rintro r U ⟨u1, u2, u3⟩
    exact Tr_ret ⟨u1, u2, u3⟩
theorem ush_b (x : Int) (hx : r32 x) (s : Nat) (hs : s = 24 ∨ s = 16 ∨ s = 8 ∨ s = 0) : ushr32 x s % 256 = bt x s := by
  unfold bt
  rcases hs with h | h | h | h <;> subst h
  · rw [ushr32_e x hx 24 (by decide) (by decide)]; simp only [Int.reducePow]; omega
  · rw [ushr32_e x hx 16 (by decide) (by decide)]; simp only [Int.reducePow]; omega
  · rw [ushr32_e x hx 8 (by decide) (by decide)]; simp only [Int.reducePow]; omega
  · have e : ushr32 x ((0 : Nat) : Int) = x := by
      unfold ushr32
      have h2 : ((Int32.ofInt x).toUInt32 >>> ((Int32.ofInt ((0 : Nat) : Int)).toUInt32 &&& Int32.toUInt32 31)).toInt32 = Int32.ofInt x := by
        have := pk_ushr (Int32.ofInt x) (Int32.ofInt ((0 : Nat) : Int)) 0 (su_i 0 (by decide))
        apply Int32.toBitVec_inj.mp
        apply BitVec.eq_of_toNat_eq
        rw [this]
        simp
      rw [h2, i32_id hx]
    rw [e]; simp
theorem D_byte {x : ST} {t : Int} {V : ASt} (h : dIt x t V) (hl : xN x 1 ≤ 40) (h6 : 0 ≤ xN x 6 ∧ xN x 6 < 1800) (v : Int) : Tr (f_Bytes_put S0 V 1 v) (fun _ U => dIt (xPb x (v % 256)) t U ∧ frX V U) := by
  have hT := h.2.2.2.2.2.2.2.2.2.2.2.2.1
  unfold f_Bytes_put
  rw [gd_t O_1, hT.1, if_neg (by omega), F_1_1, gd_t O_2, L_2, if_neg (by omega), A_2, gd_in (by omega) (by omega), and32_255]
  refine Tr_set (fun V1 e1 n1 => ?_)
  rw [n1 1 (by decide), hT.1, w32_id (by omega) (by omega)]
  refine Tr_set (fun V2 e2 n2 => Tr_ret ⟨dIt_tp h rfl rfl rfl rfl hl (fun k hk => xPb_n x _ hk) (fun a a1 a2 _ => by rw [n2 a a1, n1 a a2]) ⟨by rw [e2, upI_s, xPb_6], fun i i0 i1 => ?_⟩, fun a ha => by rw [n2 a (by omega), n1 a (by omega)]⟩)
  rw [xPb_6] at i1
  rw [xPb_T, n2 2 (by decide), e1]
  by_cases z : i = xN x 6
  · rw [if_pos z, z, upI_s]
  · rw [if_neg z, upI_n _ _ z]; exact hT.2 i i0 (by omega)
theorem D_putFour {x : ST} {t : Int} {V : ASt} {v : Int} (h : dIt x t V) (hl : xN x 1 ≤ 40) (hv : r32 v) (h6 : 0 ≤ xN x 6 ∧ xN x 6 + 4 ≤ 1800) : Tr (f_Bytes_putFour S0 V 1 v) (fun _ U => dIt (xFd x v) t U ∧ frX V U) := by
  have st : ∀ (y : ST) (U : ASt) (s : Nat) (n : Nat) (Q : Int → ASt → Prop), (s = 24 ∨ s = 16 ∨ s = 8 ∨ s = 0) → 0 ≤ xN y 6 → xN y 6 < 1800 → xN y 1 ≤ 40 → dIt y t U → frX V U → (∀ W, dIt (xPb y (bt v s)) t W → frX V W → Tr (b_Bytes_putFour_L3 S0 1 v n W (w32 ((s : Int) + -8))) Q) → Tr (b_Bytes_putFour_L3 S0 1 v (n + 1) U s) Q := by
    intro y U s n Q hs y0 y1 yl hy fy hQ
    rw [b_Bytes_putFour_L3, if_neg (show ¬ ((s : Int) < 0) by omega)]
    refine Tr_bnd (D_byte hy yl ⟨y0, y1⟩ _) ?_
    rintro r W ⟨w1, w2⟩
    rw [ush_b v hv s hs] at w1
    exact hQ W w1 (frX_tr fy w2)
  unfold f_Bytes_putFour
  rw [gd_t O_1, show FU = 99995 + 1 + 1 + 1 + 1 + 1 from rfl, show (24 : Int) = ((24 : Nat) : Int) from rfl]
  refine st x V 24 _ _ (by decide) h6.1 (by omega) hl h (fun _ _ => rfl) (fun V1 h1 f1 => ?_)
  rw [show w32 (((24 : Nat) : Int) + -8) = ((16 : Nat) : Int) by decide]
  refine st _ V1 16 _ _ (by decide) (by rw [xPb_6]; omega) (by rw [xPb_6]; omega) (by rw [xPb_n _ _ (by decide)]; exact hl) h1 f1 (fun V2 h2 f2 => ?_)
  rw [show w32 (((16 : Nat) : Int) + -8) = ((8 : Nat) : Int) by decide]
  refine st _ V2 8 _ _ (by decide) (by rw [xPb_6, xPb_6]; omega) (by rw [xPb_6, xPb_6]; omega) (by rw [xPb_n _ _ (by decide), xPb_n _ _ (by decide)]; exact hl) h2 f2 (fun V3 h3 f3 => ?_)
  rw [show w32 (((8 : Nat) : Int) + -8) = ((0 : Nat) : Int) by decide]
  refine st _ V3 0 _ _ (by decide) (by rw [xPb_6, xPb_6, xPb_6]; omega) (by rw [xPb_6, xPb_6, xPb_6]; omega) (by rw [xPb_n _ _ (by decide), xPb_n _ _ (by decide), xPb_n _ _ (by decide)]; exact hl) h3 f3 (fun V4 h4 f4 => ?_)
  rw [show w32 (((0 : Nat) : Int) + -8) = -8 by decide, b_Bytes_putFour_L3, if_pos (by decide)]
  exact Tr_ret ⟨h4, f4⟩
theorem D_feed {x : ST} {t : Int} {V : ASt} {a b c d e : Int} (h : dIt x t V) (hl : xN x 1 ≤ 40) (ha : r32 a) (hb : r32 b) (hc : r32 c) (hd : r32 d) (he : r32 e) (h6 : 0 ≤ xN x 6 ∧ xN x 6 ≤ 1800) (hr : 0 ≤ xN x 20 ∧ xN x 20 ≤ 100000) : Tr (f_SG_feed S0 V 0 a b c d e) (fun r U => r = sFeed x ∧ dIt (xFeed x a b c d e) t U ∧ frX V U) := by
  have hT := h.2.2.2.2.2.2.2.2.2.2.2.2.1
  unfold f_SG_feed sFeed xFeed
  rw [gd_t O_0, F_0_0, gd_t O_1, hT.1, w32_id (by omega) (by omega)]
  by_cases z : xN x 6 + 20 ≤ 1800
  · rw [if_pos z, if_pos z, if_pos z]
    have hl1 : ∀ (y : ST) (v : Int), xN y 1 ≤ 40 → xN (xFd y v) 1 ≤ 40 := fun y v hy => by rw [xFd_n _ _ (by decide)]; exact hy
    refine Tr_bnd (D_putFour h hl ha (by omega)) ?_
    rintro _ V1 ⟨h1, f1⟩
    refine Tr_bnd (D_putFour h1 (hl1 _ _ hl) hb (by rw [xFd_6]; omega)) ?_
    rintro _ V2 ⟨h2, f2⟩
    refine Tr_bnd (D_putFour h2 (hl1 _ _ (hl1 _ _ hl)) hc (by rw [xFd_6, xFd_6]; omega)) ?_
    rintro _ V3 ⟨h3, f3⟩
    refine Tr_bnd (D_putFour h3 (hl1 _ _ (hl1 _ _ (hl1 _ _ hl))) hd (by rw [xFd_6, xFd_6, xFd_6]; omega)) ?_
    rintro _ V4 ⟨h4, f4⟩
    refine Tr_bnd (D_putFour h4 (hl1 _ _ (hl1 _ _ (hl1 _ _ (hl1 _ _ hl)))) he (by rw [xFd_6, xFd_6, xFd_6, xFd_6]; omega)) ?_
    rintro _ V5 ⟨h5, f5⟩
    refine Tr_ret ⟨?_, h5, frX_tr f1 (frX_tr f2 (frX_tr f3 (frX_tr f4 f5)))⟩
    rw [h5.2.2.2.2.2.2.2.2.2.2.2.2.1.1, xFd_6, xFd_6, xFd_6, xFd_6, xFd_6]; omega
  · rw [if_neg z, if_neg z, if_neg z]
    refine Tr_bnd (D_refuse h (k := 0) (by decide) hr) ?_
    rintro r U ⟨u1, u2⟩
    exact Tr_ret ⟨rfl, u1, u2⟩
-- ---- end
def sEnd (x : ST) (n : Int) : Int := if 0 ≤ n ∧ n ≤ xN x 6 then 1 else 0
def xEnd (x : ST) (n : Int) : ST := if 0 ≤ n ∧ n ≤ xN x 6 then uN x 6 n else xRf x 0
theorem R_end {x : ST} {V : ASt} (h : rI x V) (hr : 0 ≤ xN x 20 ∧ xN x 20 ≤ 100000) (n : Int) : Tr (f_M_end S0 V 142 n) (fun r U => r = sEnd x n ∧ rI (xEnd x n) U ∧ frM V U) := by
  have h' := h
  obtain ⟨b, g1, g2, g3, g4, g5, g6, g7, g8, -⟩ := h
  have hJ : ¬ (0 ≤ n ∧ n ≤ xN x 6) → Tr (b_M_end_J12 S0 V 142) (fun r U => r = sEnd x n ∧ rI (xEnd x n) U ∧ frM V U) := by
    intro z
    unfold b_M_end_J12 sEnd xEnd
    rw [if_neg z, if_neg z]
    refine Tr_bnd (R_refuses h' (k := 0) (by decide) hr) ?_
    rintro r U ⟨u1, u2, u3⟩
    rw [u1, if_pos (by decide)]
    exact Tr_ret ⟨rfl, u2, u3⟩
  unfold f_M_end
  rw [gd_t O_142, g5.2.2.2.2.2.2.1]
  refine Tr_if (fun c => hJ (by omega)) (fun c => ?_)
  refine Tr_if (fun d => ?_) (fun d => hJ (by omega))
  have z : 0 ≤ n ∧ n ≤ xN x 6 := ⟨by omega, d⟩
  refine Tr_set (fun V1 e1 n1 => Tr_ret ⟨by unfold sEnd; rw [if_pos z], ?_, fun a ha => n1 a (by omega)⟩)
  unfold xEnd
  rw [if_pos z]
  refine rI_tp h' rfl rfl rfl rfl (fun k hk => uN_n x _ hk) (fun a ha _ => n1 a (by unfold rK at ha; omega)) (fun k _ hk => by rw [e1, upI_n _ _ hk]) (by rw [e1, upI_s, uN_s]) (fun i i0 i1 => ?_)
  rw [uN_s] at i1
  rw [n1 143 (by decide)]; exact g8 i i0 (by omega)
theorem D_end {x : ST} {t : Int} {V : ASt} (h : dIt x t V) (hl : xN x 1 ≤ 40) (hr : 0 ≤ xN x 20 ∧ xN x 20 ≤ 100000) (n : Int) : Tr (f_SG_end S0 V 0 n) (fun r U => r = sEnd x n ∧ dIt (xEnd x n) t U ∧ frX V U) := by
  have hT := h.2.2.2.2.2.2.2.2.2.2.2.2.1
  have hJ : ¬ (0 ≤ n ∧ n ≤ xN x 6) → Tr (b_SG_end_J15 S0 V 0) (fun r U => r = sEnd x n ∧ dIt (xEnd x n) t U ∧ frX V U) := by
    intro z
    unfold b_SG_end_J15 sEnd xEnd
    rw [if_neg z, if_neg z]
    refine Tr_bnd (D_refuse h (k := 0) (by decide) hr) ?_
    rintro r U ⟨u1, u2⟩
    exact Tr_ret ⟨rfl, u1, u2⟩
  unfold f_SG_end
  rw [gd_t O_0, F_0_0, gd_t O_1, hT.1]
  refine Tr_if (fun c => hJ (by omega)) (fun c => ?_)
  refine Tr_if (fun d => ?_) (fun d => hJ (by omega))
  have z : 0 ≤ n ∧ n ≤ xN x 6 := ⟨by omega, d⟩
  refine Tr_set (fun V1 e1 n1 => Tr_ret ⟨by unfold sEnd; rw [if_pos z], ?_, fun a ha => n1 a (by omega)⟩)
  unfold xEnd
  rw [if_pos z]
  refine dIt_tp h rfl rfl rfl rfl hl (fun k hk => uN_n x _ hk) (fun a a1 a2 _ => n1 a a1) ⟨by rw [e1, upI_s, uN_s], fun i i0 i1 => ?_⟩
  rw [uN_s] at i1
  rw [n1 2 (by decide)]; exact hT.2 i i0 (by omega)
-- ---- octets
def sOctet (x : ST) (k : Int) : Int := if 0 ≤ k ∧ k < xN x 9 then xI x k else -1
theorem R_octet {x : ST} {V : ASt} (h : rI x V) (h9 : 0 ≤ xN x 9 ∧ xN x 9 ≤ 44) (k : Int) : f_M_octet S0 V 142 k = some (sOctet x k, V) := by
  obtain ⟨b, g1, g2, g3, g4, g5, g6, g7, g8, g9, -⟩ := h
  unfold f_M_octet sOctet
  rw [gd_t O_142, g5.2.2.2.2.2.2.2.2.2, F_142_79, A_197]
  by_cases c : 0 ≤ k ∧ k < xN x 9
  · rw [if_neg (show ¬ (k < 0) by omega), if_neg (show ¬ (xN x 9 ≤ k) by omega), gd_in (by omega) (by omega), if_pos c, g9 k c.1 c.2]
  · rw [if_neg c]
    by_cases d : k < 0
    · rw [if_pos d]
    · rw [if_neg d, if_pos (by omega)]
theorem D_octet {x : ST} {t : Int} {V : ASt} (h : dIt x t V) (h9 : 0 ≤ xN x 9 ∧ xN x 9 ≤ 44) (k : Int) : f_SG_octet S0 V 0 k = some (sOctet x k, V) := by
  have g := h.2.2.2.2.2.2.2.2.2.2.2.2.2.1
  unfold f_SG_octet sOctet f_Bytes_at
  rw [gd_t O_0, F_0_18, gd_t O_113, gd_t O_113, g.1, F_113_1, gd_t O_114, L_114, A_114]
  by_cases c : 0 ≤ k ∧ k < xN x 9
  · rw [if_neg (show ¬ (k < 0) by omega), if_neg (show ¬ (xN x 9 ≤ k) by omega), if_neg (show ¬ (44 ≤ k) by omega), gd_in (by omega) (by omega), if_pos c, g.2 k c.1 c.2, bnd_e]
  · rw [if_neg c]
    by_cases d : k < 0
    · rw [if_pos d, bnd_e]
    · rw [if_neg d, if_pos (by omega), bnd_e]
-- ---- the spring
def xSpr (x : ST) : ST := uN (uH x (fun i => if i = 40 then xS x else xH x i)) 2 1
theorem M_restOf {G : GM} {s : SL} {b r : Int} {V : ASt} (hG : GOK G) (hs : SOK G s) (g1 : rG G b V) (g4 : rS G s V) (h0 : 0 ≤ r) (h1 : r < qR G) : f_M_restOf S0 V 142 r = some (rst s r, V) := by
  have hR := hG.2.2.1
  have hr := g4 r h0 h1
  have hss := hs.2.2 r h0 h1
  have hn : 0 ≤ sN s r ∧ sN s r ≤ 3 := by
    by_cases z : hasN G r
    · have := hss.2.2.1 z; omega
    · have := hss.2.2.2 z; omega
  unfold f_M_restOf b_M_restOf_J23 rst
  rw [gd_t O_142, F_142_47, A_172, gd_in (by omega) (by omega), F_142_45, A_170, gd_in (by omega) (by omega), F_142_46, A_171, gd_in (by omega) (by omega), gd_in (by omega) (by omega), hr.2.1, hr.2.2.1, hr.2.2.2, w32_id (x := 8 * sN s r) (by omega) (by omega)]
  rcases hss.1 with e | e <;> rcases hss.2.1 with f | f <;> rw [e, f] <;> simp only [Int.reduceEq, reduceIte, if_true, if_false] <;> simp (disch := omega) only [w32_id] <;> refine congrArg (fun y => some (y, V)) ?_ <;> omega
theorem R_spring {x : ST} {V : ASt} (hG : GOK (xG x)) (hs : SOK (xG x) (xS x)) (h : rI x V) (hU40 : xN x 1 ≤ 40) : Tr (f_M_spring S0 V 142) (fun r U => r = qR (xG x) ∧ rI (xSpr x) U ∧ frM V U) := by
  have hR := hG.2.2.1
  have h' := h
  obtain ⟨b, g1, g2, g3, g4, g5, g6, g7, g8, g9, g10, g11⟩ := h
  unfold f_M_spring
  rw [gd_t O_142]
  refine Tr_set (fun V1 e1 n1 => ?_)
  have hl : ∀ (n : Nat) (i : Int) (W : ASt), 0 ≤ i → i ≤ qR (xG x) → qR (xG x) - i < n → (∀ a, a ≠ 191 → a ≠ 192 → W a = V1 a) → (∀ j, 0 ≤ j → j < i → W 191 j = sA (xS x) j ∧ W 192 j = rst (xS x) j) →
      Tr (b_M_spring_L7 S0 142 n W i) (fun r U => r = qR (xG x) ∧ rI (xSpr x) U ∧ frM V U) := by
    intro n
    induction n with
    | zero => intro i W h1 h2 h3; omega
    | succ n ih =>
      intro i W i0 i1 hn fW kW
      have f2 : ∀ a, a ≠ 142 → a ≠ 191 → a ≠ 192 → W a = V a := fun a a1 a2 a3 => by rw [fW a a2 a3, n1 a a1]
      have e12 : W 142 12 = V 142 12 := by rw [fW 142 (by decide) (by decide), e1, upI_n _ _ (by decide)]
      have gW : rG (xG x) b W := rG_fr3 e12 (fun a a1 a2 => f2 a (by omega) (by omega) (by omega)) g1
      have sW : rS (xG x) (xS x) W := rS_fr (fun a a1 a2 => f2 a (by omega) (by omega) (by omega)) g4
      rw [b_M_spring_L7]
      refine Tr_bq (M_rulesAll gW) ?_
      refine Tr_if (fun c => ?_) (fun c => ?_)
      · refine Tr_bq (M_rulesAll gW) ?_
        have : i = qR (xG x) := by omega
        subst this
        refine Tr_ret ⟨rfl, ?_, fun a ha => f2 a (by omega) (by omega) (by omega)⟩
        have m : ∀ j, j ≠ 2 → xN (xSpr x) j = xN x j := fun j hj => uN_n (uH x _) _ hj
        have eK : ∀ k, k ≠ 72 → W 142 k = V 142 k := fun k hk => by rw [fW 142 (by decide) (by decide), e1, upI_n _ _ hk]
        refine rI_mk h' rfl rfl (fun a ha => f2 a (by omega) (by omega) (by omega)) e12 ?_ ⟨?_, fun j j0 j1 => ?_⟩ ?_ ?_ ⟨?_, ?_, ?_⟩
        · unfold rSc
          rw [eK 48 (by decide), eK 65 (by decide), eK 59 (by decide), eK 60 (by decide), eK 61 (by decide), eK 1 (by decide), eK 10 (by decide), eK 11 (by decide), eK 80 (by decide), m 0 (by decide), m 1 (by decide), m 3 (by decide), m 4 (by decide), m 5 (by decide), m 6 (by decide), m 7 (by decide), m 8 (by decide), m 9 (by decide), fW 142 (by decide) (by decide), e1, upI_s]
          exact ⟨g5.1, g5.2.1, (uN_s (uH x _) 2 1).symm, g5.2.2.2⟩
        · rw [f2 173 (by decide) (by decide) (by decide), f2 174 (by decide) (by decide) (by decide), m 10 (by decide), m 11 (by decide), m 12 (by decide), m 13 (by decide)]; exact g6
        · rw [f2 166 (by decide) (by decide) (by decide), m _ (by omega)]; exact g7 j j0 j1
        · rw [m 6 (by decide), f2 143 (by decide) (by decide) (by decide)]; exact g8
        · rw [m 9 (by decide), f2 197 (by decide) (by decide) (by decide)]; exact g9
        · rw [m 1 (by decide), f2 185 (by decide) (by decide) (by decide), f2 186 (by decide) (by decide) (by decide), f2 187 (by decide) (by decide) (by decide), f2 188 (by decide) (by decide) (by decide)]
          intro i i0 i1 k k0 k1
          have e40 : xH (xSpr x) i = xH x i := by
            show (if i = 40 then xS x else xH x i) = xH x i
            by_cases z : i = 40
            · exact absurd z (by have := hU40; omega)
            · rw [if_neg z]
          rw [e40]; exact g10 i i0 i1 k k0 k1
        · intro _ k k0 k1
          exact kW k k0 k1
        · rw [f2 186 (by decide) (by decide) (by decide), f2 187 (by decide) (by decide) (by decide)]; exact g11.2
      · have hr := sW i i0 (by omega)
        rw [F_142_44, A_169, gd_in (by omega) (by omega), F_142_73, A_191, gd_in (by omega) (by omega), hr.1]
        refine Tr_set (fun V2 e2 n2 => ?_)
        have g2' : rG (xG x) b V2 := rG_fr (fun a a1 a2 => n2 a (by omega)) gW
        have s2' : rS (xG x) (xS x) V2 := rS_fr (fun a a1 a2 => n2 a (by omega)) sW
        refine Tr_bq (M_restOf hG hs g2' s2' i0 (by omega)) ?_
        rw [F_142_74, A_192, gd_in (by omega) (by omega)]
        refine Tr_set (fun V3 e3 n3 => ?_)
        rw [w32_id (x := i + 1) (by omega) (by omega)]
        refine ih (i + 1) V3 (by omega) (by omega) (by omega) (fun a a1 a2 => by rw [n3 a a2, n2 a a1, fW a a1 a2]) (fun j j0 j1 => ?_)
        rw [n3 191 (by decide), e2, e3, n2 192 (by decide)]
        by_cases z : j = i
        · rw [z, upI_s, upI_s]; exact ⟨rfl, rfl⟩
        · rw [upI_n _ _ z, upI_n _ _ z]; exact kW j j0 (by omega)
  exact hl FU 0 V1 (by omega) (by omega) (by rw [FU_v]; omega) (fun _ _ _ => rfl) (fun j j0 j1 => by omega)
theorem D_spring {x : ST} {t : Int} {V : ASt} (hG : GOK (xG x)) (h : dIt x t V) (hl : xN x 1 ≤ 40) : Tr (f_SG_spring S0 V 0) (fun r U => r = qR (xG x) ∧ dIt (xSpr x) t U ∧ frX V U) := by
  have h' := h
  obtain ⟨h0, h1, h2, h3, h4, h5, h6, h7, h8, h9, h10, h11, h12, h13, h14⟩ := h
  unfold f_SG_spring
  rw [gd_t O_0, F_0_5, gd_t O_43]
  refine Tr_set (fun V1 e1 n1 => ?_)
  rw [F_43_1, gd_t O_44, F_0_4]
  have d1 : dS (xG x) (xS x) 41 V1 := dS_fr (n1 41 (by decide)) (n1 42 (by decide)) h4
  refine Tr_bnd (S_copyFrom hG (show isSl 44 by unfold isSl; omega) (show isSl 41 from Or.inl rfl) (by decide) d1) ?_
  rintro r U ⟨u1, u2, u3⟩
  have fU : ∀ a, a ≠ 43 → a ≠ 44 → a ≠ 45 → U a = V a := fun a a1 a2 a3 => by rw [u2 a a2 a3, n1 a a1]
  rw [gd_t O_41]
  have m : ∀ j, j ≠ 2 → xN (xSpr x) j = xN x j := fun j hj => uN_n (uH x _) _ hj
  have e41 : U 41 0 = qR (xG x) := by rw [fU 41 (by decide) (by decide) (by decide)]; exact h4.1
  refine Tr_ret ⟨e41, dIt_g h' rfl rfl (fun i hi => ?_) (m 1 (by decide)) hl (fun a ha => fU a (by omega) (by omega) (by omega)) ?_ ?_ ?_ ?_ ?_ ?_, fun a ha => fU a (by omega) (by omega) (by omega)⟩
  · show (if i = 40 then xS x else xH x i) = xH x i
    rw [if_neg hi]
  · unfold dA at *; rw [fU 0 (by decide) (by decide) (by decide), m 0 (by decide)]; exact h1
  · refine ⟨?_, fun _ => u1⟩
    rw [u2 43 (by decide) (by decide), e1, upI_s]; exact (uN_s (uH x _) 2 1).symm
  · unfold dMa at *; rw [fU 109 (by decide) (by decide) (by decide), m 3 (by decide), m 4 (by decide), m 5 (by decide)]; exact h11
  · unfold dTp at *; rw [fU 1 (by decide) (by decide) (by decide), fU 2 (by decide) (by decide) (by decide), m 6 (by decide)]; exact h12
  · unfold dIm at *; rw [fU 113 (by decide) (by decide) (by decide), fU 114 (by decide) (by decide) (by decide), m 9 (by decide)]; exact h13
  · unfold dMi at *
    rw [fU 35 (by decide) (by decide) (by decide), fU 112 (by decide) (by decide) (by decide), fU 111 (by decide) (by decide) (by decide), fU 115 (by decide) (by decide) (by decide), fU 108 (by decide) (by decide) (by decide), fU 37 (by decide) (by decide) (by decide), fU 6 (by decide) (by decide) (by decide), fU 22 (by decide) (by decide) (by decide), m 7 (by decide), m 8 (by decide), m 10 (by decide), m 11 (by decide), m 12 (by decide), m 13 (by decide)]
    exact ⟨h14.1, h14.2.1, h14.2.2.1, h14.2.2.2.1, h14.2.2.2.2.1, h14.2.2.2.2.2.1, fun j j0 j1 => by rw [m _ (by omega)]; exact h14.2.2.2.2.2.2.1 j j0 j1, h14.2.2.2.2.2.2.2⟩
