/-! the reference's game(), the whole -/
theorem rG_o {G : GM} {b : Int} {V U : ASt} (hG : GOK G) (f : ∀ a i, oB a (1 - b) i → U a i = V a i) (h12 : U 142 12 = V 142 12) (g : rG G b V) : rG G b U := by
  obtain ⟨g1, g2, g3, g4, g5, g6, g7, g8⟩ := g
  have hP := hG.2.1
  have hR := hG.2.2.1
  refine ⟨by rw [h12]; exact g1, g2, ?_, ?_, ?_, ?_, fun k k0 k1 => ?_, fun r r0 r1 => ?_⟩
  · rw [f 144 b (by unfold oB; omega)]; exact g3
  · rw [f 145 b (by unfold oB; omega)]; exact g4
  · rw [f 149 b (by unfold oB; omega)]; exact g5
  · rw [f 150 b (by unfold oB; omega)]; exact g6
  · rw [f 147 _ (by unfold oB; omega), f 148 _ (by unfold oB; omega)]; exact g7 k k0 k1
  · rw [f 151 _ (by unfold oB; omega), f 152 _ (by unfold oB; omega), f 153 _ (by unfold oB; omega), f 154 _ (by unfold oB; omega), f 155 _ (by unfold oB; omega)]; exact g8 r r0 r1
theorem rT_o {G : GM} {b : Int} {V U : ASt} (hG : GOK G) (hb : b = 0 ∨ b = 1) (f : ∀ a i, oB a (1 - b) i → U a i = V a i) (g : rT G b V) : rT G b U := by
  have hR := hG.2.2.1
  intro r r0 r1 W hW h12 hm
  rw [f 156 _ (by unfold oB; omega), f 157 _ (by unfold oB; omega)]
  refine g r r0 r1 W (fun j j0 j1 => ?_) h12 hm
  have := hW j j0 j1
  rw [f 158 _ (by unfold oB; omega), f 159 _ (by unfold oB; omega)] at this
  exact this
theorem rL_o {G : GM} {b : Int} {V U : ASt} (hG : GOK G) (hb : b = 0 ∨ b = 1) (f : ∀ a i, oB a (1 - b) i → U a i = V a i) (g : rL G b V) : rL G b U := by
  have hP := hG.2.1
  intro k k0 k1
  rw [f 146 _ (by unfold oB; omega)]
  exact g k k0 k1
theorem rI_flt {x : ST} {b kd p : Int} {V U : ASt} (hG : GOK (xG x)) (h : rI x V) (hb : V 142 12 = b) (f1 : ∀ a, a ≠ 142 → (a < 144 ∨ 165 < a) → U a = V a) (f2 : ∀ a i, oB a (1 - b) i → U a i = V a i) (f3 : ∀ k, (k = 12 ∨ k = 48 ∨ k = 65 ∨ k = 72 ∨ k = 59 ∨ k = 60 ∨ k = 61 ∨ k = 80) → U 142 k = V 142 k) (e1 : U 142 1 = 0) (e10 : U 142 10 = kd) (e11 : U 142 11 = p) : rI (uN (uN (uN x 6 0) 7 kd) 8 p) U := by
  obtain ⟨c, g1, g2, g3, g4, g5, g6, g7, g8, g9, g10, g11, g12⟩ := h
  have hc : b = c := by rw [← hb]; exact g1.1
  subst hc
  have m : ∀ j, j ≠ 6 → j ≠ 7 → j ≠ 8 → xN (uN (uN (uN x 6 0) 7 kd) 8 p) j = xN x j := fun j j1 j2 j3 => by rw [uN_n _ _ j3, uN_n _ _ j2, uN_n _ _ j1]
  have m6 : xN (uN (uN (uN x 6 0) 7 kd) 8 p) 6 = 0 := by rw [uN_n _ _ (by decide), uN_n _ _ (by decide), uN_s]
  have m7 : xN (uN (uN (uN x 6 0) 7 kd) 8 p) 7 = kd := by rw [uN_n _ _ (by decide), uN_s]
  have m8 : xN (uN (uN (uN x 6 0) 7 kd) 8 p) 8 = p := by rw [uN_s]
  refine ⟨b, rG_o hG f2 (f3 12 (by omega)) g1, rT_o hG g1.2.1 f2 g2, rL_o hG g1.2.1 f2 g3, rS_fr (fun a a1 a2 => f1 a (by omega) (by omega)) g4, ?_, ?_, fun k k0 k1 => ?_, fun i i0 i1 => ?_, fun i i0 i1 => ?_, fun i i0 i1 => ?_, fun e => ?_, ?_⟩
  · rw [m6, m7, m8, m 0 (by decide) (by decide) (by decide), m 1 (by decide) (by decide) (by decide), m 2 (by decide) (by decide) (by decide), m 3 (by decide) (by decide) (by decide), m 4 (by decide) (by decide) (by decide), m 5 (by decide) (by decide) (by decide), m 9 (by decide) (by decide) (by decide), f3 48 (by omega), f3 65 (by omega), f3 72 (by omega), f3 59 (by omega), f3 60 (by omega), f3 61 (by omega), f3 80 (by omega)]
    exact ⟨g5.1, g5.2.1, g5.2.2.1, g5.2.2.2.1, g5.2.2.2.2.1, g5.2.2.2.2.2.1, e1, e10, e11, g5.2.2.2.2.2.2.2.2.2⟩
  · rw [m 10 (by decide) (by decide) (by decide), m 11 (by decide) (by decide) (by decide), m 12 (by decide) (by decide) (by decide), m 13 (by decide) (by decide) (by decide), f1 173 (by decide) (by decide), f1 174 (by decide) (by decide)]; exact g6
  · rw [m _ (by omega) (by omega) (by omega), f1 166 (by decide) (by decide)]; exact g7 k k0 k1
  · rw [m6] at i1; omega
  · rw [m 9 (by decide) (by decide) (by decide)] at i1
    rw [f1 197 (by decide) (by decide)]; exact g9 i i0 i1
  · rw [m 1 (by decide) (by decide) (by decide)] at i1
    rw [f1 185 (by decide) (by decide), f1 186 (by decide) (by decide), f1 187 (by decide) (by decide), f1 188 (by decide) (by decide)]; exact g10 i i0 i1
  · rw [m 2 (by decide) (by decide) (by decide)] at e
    rw [f1 191 (by decide) (by decide), f1 192 (by decide) (by decide)]; exact g11 e
  · rw [f1 186 (by decide) (by decide), f1 187 (by decide) (by decide)]; exact g12
theorem tk_nu {T : Int → Int} {n : Int} (hn : 0 ≤ n) : ∀ k, (tkK T n).1 k = 3 → 0 ≤ (tkK T n).2.2.2 k ∧ (tkK T n).2.2.2 k ≤ 9999 := fun k h => kV_b hn k h
theorem tk_nm {T : Int → Int} {n N : Int} (hn : 0 ≤ n) : ∀ k, k ≤ N → (tkK T n).1 k = 2 → 0 ≤ k → nmL ((tkK T n).2.2.1 k) := by
  intro k _ h h0
  have he := eK_all (T := T) hn k.toNat
  have h8 := tk_c8 T n (eK T n k.toNat)
  have h' : tkT T n (eK T n k.toNat) = 2 := h
  show nmL (tkN T n (eK T n k.toNat))
  have hpa := pA_r (T := T) he.1 he.2
  rcases h8 with ⟨c, h1, -⟩ | ⟨c, hor, j, h1, -⟩ | ⟨c, cl, j, y, h1, -⟩ | ⟨c, cl, j, y, -⟩ | ⟨c, cl, cd, j, y, h1, -⟩ | ⟨c, cl, cd, j, y, h1, -⟩ | ⟨c, cl, cd, h1, -⟩
  · omega
  · omega
  · omega
  · exact (wE_n (by omega) c cl).2.2 (by omega)
  · omega
  · omega
  · rcases h1 with ⟨q1, q2⟩ | ⟨q1, q2⟩
    · unfold sgn at q1; omega
    · omega
theorem R_game {x : ST} {V : ASt} (hG : GOK (xG x)) (h : rI x V) (h6 : 0 ≤ xN x 6 ∧ xN x 6 ≤ 1800) (hT : ∀ i, 0 ≤ i → i < xN x 6 → 0 ≤ xT x i ∧ xT x i ≤ 255) (hrf : 0 ≤ xN x 21 ∧ xN x 21 ≤ 100000) : Tr (f_M_game S0 V 142) (fun r U => r = sGm x ∧ rI (xGm x) U ∧ frM V U) := by
  have h' := h
  obtain ⟨b0, g1, g2, g3, g4, g5, g6, g7, g8, g9, g10, g11, g12⟩ := h
  have hb0 := g1.2.1
  have e12 := g1.1
  obtain ⟨N, hL⟩ := lstK_ex (T := xT x) (n := xN x 6) h6.1
  have e6 : V 142 1 = xN x 6 := g5.2.2.2.2.2.2.1
  have hb : (1 - b0 = 0 ∨ 1 - b0 = 1) := by omega
  unfold f_M_game
  rw [gd_t O_142, e6]
  refine Tr_set (fun V1 a1 n1 => ?_)
  refine Tr_set (fun V2 a2 n2 => ?_)
  refine Tr_set (fun V3 a3 n3 => ?_)
  refine Tr_set (fun V4 a4 n4 => ?_)
  refine Tr_set (fun V5 a5 n5 => ?_)
  have c5 : V5 142 = upI (upI (upI (upI (upI (V 142) 2 (xN x 6)) 1 0) 5 0) 8 0) 9 (-1) := by rw [a5, a4, a3, a2, a1]
  have v12 : V5 142 12 = b0 := by rw [c5, upI_n _ _ (by decide), upI_n _ _ (by decide), upI_n _ _ (by decide), upI_n _ _ (by decide), upI_n _ _ (by decide)]; exact e12
  rw [v12, w32_id (x := 1 - b0) (by omega) (by omega)]
  refine Tr_set (fun V6 a6 n6 => ?_)
  have v30 : V6 142 30 = 1 - b0 := by rw [a6, upI_s]
  rw [F_142_14, F_142_18, F_142_19, v30, A_145, gd_in (by omega) (by omega)]
  refine Tr_set (fun V7 a7 n7 => ?_)
  rw [n7 142 (by decide), v30, A_149, gd_in (by omega) (by omega)]
  refine Tr_set (fun V8 a8 n8 => ?_)
  rw [n8 142 (by decide), n7 142 (by decide), v30, A_150, gd_in (by omega) (by omega)]
  refine Tr_set (fun V9 a9 n9 => ?_)
  refine Tr_set (fun W aW nW => ?_)
  have cW : W 142 = upI (upI (upI (upI (upI (upI (upI (V 142) 2 (xN x 6)) 1 0) 5 0) 8 0) 9 (-1)) 30 (1 - b0)) 29 0 := by rw [aW, n9 142 (by decide), n8 142 (by decide), n7 142 (by decide), a6, c5]
  have oW : ∀ a, a ≠ 142 → a ≠ 145 → a ≠ 149 → a ≠ 150 → W a = V a := fun a x0 x1 x2 x3 => by rw [nW a x0, n9 a x3, n8 a x2, n7 a x1, n6 a x0, n5 a x0, n4 a x0, n3 a x0, n2 a x0, n1 a x0]
  have w145 : W 145 = upI (V 145) (1 - b0) 0 := by rw [nW 145 (by decide), n9 145 (by decide), n8 145 (by decide), a7, n6 145 (by decide), n5 145 (by decide), n4 145 (by decide), n3 145 (by decide), n2 145 (by decide), n1 145 (by decide)]
  have w149 : W 149 = upI (V 149) (1 - b0) 0 := by rw [nW 149 (by decide), n9 149 (by decide), a8, n7 149 (by decide), n6 149 (by decide), n5 149 (by decide), n4 149 (by decide), n3 149 (by decide), n2 149 (by decide), n1 149 (by decide)]
  have w150 : W 150 = upI (V 150) (1 - b0) 0 := by rw [nW 150 (by decide), a9, n8 150 (by decide), n7 150 (by decide), n6 150 (by decide), n5 150 (by decide), n4 150 (by decide), n3 150 (by decide), n2 150 (by decide), n1 150 (by decide)]
  have kW : ∀ k, k ≠ 1 → k ≠ 2 → k ≠ 5 → k ≠ 8 → k ≠ 9 → k ≠ 29 → k ≠ 30 → W 142 k = V 142 k := fun k k1 k2 k3 k4 k5 k6 k7 => by rw [cW, upI_n _ _ k6, upI_n _ _ k7, upI_n _ _ k5, upI_n _ _ k4, upI_n _ _ k3, upI_n _ _ k1, upI_n _ _ k2]
  have W8 : W 142 8 = 0 := by rw [cW, upI_n _ _ (by decide), upI_n _ _ (by decide), upI_n _ _ (by decide), upI_s]
  have W9 : W 142 9 = -1 := by rw [cW, upI_n _ _ (by decide), upI_n _ _ (by decide), upI_s]
  have W5 : W 142 5 = 0 := by rw [cW, upI_n _ _ (by decide), upI_n _ _ (by decide), upI_n _ _ (by decide), upI_n _ _ (by decide), upI_s]
  have W1 : W 142 1 = 0 := by rw [cW, upI_n _ _ (by decide), upI_n _ _ (by decide), upI_n _ _ (by decide), upI_n _ _ (by decide), upI_n _ _ (by decide), upI_s]
  have W30 : W 142 30 = 1 - b0 := by rw [cW, upI_n _ _ (by decide), upI_s]
  have W29 : W 142 29 = 0 := by rw [cW, upI_s]
  have hX : LX (xT x) (xN x 6) W := by
    refine ⟨?_, h6, fun i i0 i1 => ?_⟩
    · rw [cW, upI_n _ _ (by decide), upI_n _ _ (by decide), upI_n _ _ (by decide), upI_n _ _ (by decide), upI_n _ _ (by decide), upI_n _ _ (by decide), upI_s]
    · rw [oW 143 (by decide) (by decide) (by decide) (by decide)]
      exact ⟨g8 i i0 i1, hT i i0 i1⟩
  refine Tr_bnd (Tr_KP (M_ahead hX W5 W8 ⟨Int.le_refl 0, h6.1⟩) (KP_ahead (fun _ => W9))) ?_
  rintro _ X ⟨⟨x1, x2⟩, x3⟩
  have rX : rKt (xT x) (xN x 6) 0 X := ⟨x2, x3⟩
  have gX : fB (1 - b0) W X := fB_A x1
  have X30 : X 142 30 = 1 - b0 := by rw [fB_30 gX]; exact W30
  refine Tr_bnd (R_board hb hL (LX_B hX gX) X30 rX (by rw [x1.1 145 (by decide), w145, upI_s]) (by rw [x1.1 149 (by decide), w149, upI_s]) (by rw [x1.1 150 (by decide), w150, upI_s]) (by rw [x1.2 29 (by omega)]; exact W29)) ?_
  rintro _ Y ⟨y1, y2⟩
  have gY : fB (1 - b0) W Y := fB_tr gX y1
  -- the end, from any state that reading leads to
  have fin : ∀ (U : ASt) (c : Int), fB (1 - b0) W U → U 142 30 = 1 - b0 → GE (xT x) (xN x 6) (1 - b0) c (gmS (tkK (xT x) (xN x 6))) U → Tr (b_M_game_J107 S0 U 142 c) (fun r U => r = sGm x ∧ rI (xGm x) U ∧ frM V U) := by
    intro U c fU U30 hE
    unfold b_M_game_J107
    refine Tr_set (fun Z1 z1 m1 => ?_)
    rw [z1, upI_n _ _ (show (9 : Int) ≠ 10 by decide)]
    refine Tr_set (fun Z2 z2 m2 => ?_)
    have cZ : Z2 142 = upI (upI (U 142) 10 (U 142 8)) 11 (U 142 9) := by rw [z2, z1]
    have oZ : ∀ a, a ≠ 142 → Z2 a = U a := fun a ha => by rw [m2 a ha, m1 a ha]
    have kZ : ∀ k, (k < 1 ∨ 9 < k) → k ≠ 10 → k ≠ 11 → k ≠ 29 → k ≠ 30 → k ≠ 36 → k ≠ 37 → k ≠ 39 → k ≠ 40 → Z2 142 k = V 142 k := fun k k1 k2 k3 k4 k5 k6 k7 k8 k9 => by rw [cZ, upI_n _ _ k3, upI_n _ _ k2, fU.2.1 k (by omega) k4 k6 k7 k8 k9, kW k (by omega) (by omega) (by omega) (by omega) (by omega) k4 k5]
    have lZ : ∀ a, a ≠ 142 → (a < 144 ∨ 165 < a) → Z2 a = V a := fun a b1 b2 => by rw [oZ a b1, fU.1 a b1 b2, oW a b1 (by omega) (by omega) (by omega)]
    have bZ : ∀ a i, oB a (1 - b0) i → Z2 a i = V a i := by
      intro a i hi
      have ha : a ≠ 142 := by unfold oB at hi; omega
      rw [oZ a ha, fU.2.2 a i hi]
      unfold oB at hi
      by_cases q5 : a = 145
      · rw [q5, w145, upI_n _ _ (by omega)]
      by_cases q9 : a = 149
      · rw [q9, w149, upI_n _ _ (by omega)]
      by_cases q0 : a = 150
      · rw [q0, w150, upI_n _ _ (by omega)]
      rw [oW a ha q5 q9 q0]
    have Z1e : Z2 142 1 = 0 := by rw [cZ, upI_n _ _ (by decide), upI_n _ _ (by decide), fU.2.1 1 (by omega) (by decide) (by decide) (by decide) (by decide) (by decide)]; exact W1
    have Z8 : Z2 142 8 = U 142 8 := by rw [cZ, upI_n _ _ (by decide), upI_n _ _ (by decide)]
    have Z10 : Z2 142 10 = U 142 8 := by rw [cZ, upI_n _ _ (by decide), upI_s]
    have Z11 : Z2 142 11 = U 142 9 := by rw [cZ, upI_s]
    have frZ : frM V Z2 := fun a ha => lZ a (by omega) (by omega)
    rcases hE with ⟨m, s, eR, ec, e8, eB, eO, e9⟩ | ⟨kd, p, eR, e0, e8, e9⟩
    · refine Tr_t (by rw [Z8]; omega) ?_
      have Z30 : Z2 142 30 = 1 - b0 := by rw [cZ, upI_n _ _ (by decide), upI_n _ _ (by decide)]; exact U30
      rw [Z30]
      refine Tr_set (fun Q q1 p1 => ?_)
      have BQ : gmB (1 - b0) s Q := gB_k eB (fun a a1 a2 => by rw [p1 a (by omega), oZ a (by omega)]) (by rw [q1, upI_n _ _ (by decide), cZ, upI_n _ _ (by decide), upI_n _ _ (by decide)])
      have Q12 : Q 142 12 = 1 - b0 := by rw [q1, upI_s]
      have kQ : ∀ k, k ≠ 12 → Q 142 k = Z2 142 k := fun k hk => by rw [q1, upI_n _ _ hk]
      have hB : rB x s (1 - b0) Q := by
        refine ⟨rG_q hb BQ Q12, rT_q hb eO (Int.le_refl _) BQ, rL_q BQ, ?_, fun k k0 k1 => ?_, fun i i0 i1 => ?_, fun j j0 j1 => ?_⟩
        · rw [kQ 59 (by decide), kQ 60 (by decide), kQ 61 (by decide), kQ 1 (by decide), kQ 10 (by decide), kQ 11 (by decide), kQ 80 (by decide), Z1e, Z10, Z11, e8, e9, kZ 59 (by omega) (by decide) (by decide) (by decide) (by decide) (by decide) (by decide) (by decide) (by decide), kZ 60 (by omega) (by decide) (by decide) (by decide) (by decide) (by decide) (by decide) (by decide) (by decide), kZ 61 (by omega) (by decide) (by decide) (by decide) (by decide) (by decide) (by decide) (by decide) (by decide), kZ 80 (by omega) (by decide) (by decide) (by decide) (by decide) (by decide) (by decide) (by decide) (by decide)]
          exact ⟨g5.2.2.2.1, g5.2.2.2.2.1, g5.2.2.2.2.2.1, rfl, rfl, rfl, g5.2.2.2.2.2.2.2.2.2⟩
        · rw [p1 166 (by decide), lZ 166 (by decide) (by decide)]; exact g7 k k0 k1
        · rw [p1 197 (by decide), lZ 197 (by decide) (by decide)]; exact g9 i i0 i1
        · rw [p1 186 (by decide), p1 187 (by decide), lZ 186 (by decide) (by decide), lZ 187 (by decide) (by decide)]; exact g12 j j0 j1
      refine Tr_bnd (R_begins (GOK_q eO) hB) ?_
      rintro _ P ⟨p2, p3⟩
      refine Tr_ret ⟨?_, ?_, fun a ha => by rw [p3 a ha, p1 a (by omega), frZ a ha]⟩
      · unfold sGm
        rw [eR]; exact ec
      · unfold xGm
        rw [eR]; exact p2
    · refine Tr_f (by rw [Z8]; omega) ?_
      have hI : rI (uN (uN (uN x 6 0) 7 kd) 8 p) Z2 := rI_flt hG h' e12 lZ bZ (fun k hk => kZ k (by omega) (by omega) (by omega) (by omega) (by omega) (by omega) (by omega) (by omega) (by omega)) Z1e (by rw [Z10]; exact e8) (by rw [Z11]; exact e9)
      refine Tr_bnd (R_refuses (k := 1) hI (by decide) (by rw [uN_n _ _ (by decide), uN_n _ _ (by decide), uN_n _ _ (by decide)]; exact hrf)) ?_
      rintro r P ⟨p0, p2, p3⟩
      refine Tr_ret ⟨?_, ?_, fun a ha => by rw [p3 a ha, frZ a ha]⟩
      · unfold sGm
        rw [eR]; exact p0
      · unfold xGm
        rw [eR]; exact p2
  have hgs : gmS (tkK (xT x) (xN x 6)) = pbd (bdS (tkK (xT x) (xN x 6))) (fun k s => gml (tkK (xT x) (xN x 6)) 2000 1 k s) := rfl
  have hNn := hL.2.1
  rcases y2 with ⟨j, s, e1, e2, e3, e4⟩ | ⟨kd, p, e1, e2, e3, e4⟩
  · have ho := okS_bdS (K := tkK (xT x) (xN x 6)) (show lsT (tkK (xT x) (xN x 6)) N from hL.2.2.2) hL.1 j s e1
    refine R_loop hb hL (tk_nu h6.1) (tk_nm h6.1) FU 2000 1 j s Y W (LX_B hX gY) gY (by rw [fB_30 gY]; exact W30) e4 ho.2.2 e2 e3 (by rw [FU_v]; omega) (by omega) (by decide) (by omega) (fun U c u1 u2 u3 u4 => fin U c u1 u3 ?_)
    rw [hgs, e1]; exact u4
  · obtain ⟨m, hm⟩ : ∃ m, FU = m + 1 := ⟨99999, rfl⟩
    rw [hm, b_M_game_L83]
    refine Tr_f (by omega) (fin Y 1 gY (by rw [fB_30 gY]; exact W30) (Or.inr ⟨kd, p, ?_, e2, e3, e4⟩))
    rw [hgs, e1]; rfl
