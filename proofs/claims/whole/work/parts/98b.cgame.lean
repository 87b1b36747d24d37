/-! the class's game() -/
theorem dIt_gm {x : ST} {t g : Int} {V U : ASt} (hg : isGm g) (hgt : g = 22 - t) (h : dIt x t V) (f : ∀ a, (a < g ∨ g + 12 < a) → U a = V a) (hz : U (g + 3) 0 = 0) : dIt x t U := by
  have hgr := gm_r hg
  obtain ⟨h0, h1, h2, h3, h4, h5, h6, h7, h8, h9, h10, h11, h12, h13, h14⟩ := h
  refine ⟨h0, dA_k (f 0 (by omega)) h1, gI_k (fun o a b => f _ (by omega)) h2, dL_k (f _ (by omega)) h3, dS_fr (f 41 (by omega)) (f 42 (by omega)) h4, dM_k (fun c a b => f c (by omega)) h5, dV_k (fun k _ => by rw [f 62 (by omega)]) (f 63 (by omega)) (f 64 (by omega)) (fun e => by rw [f 50 (by omega)]; exact e) h6, dWW_k (f 96 (by omega)) (f 97 (by omega)) (f 98 (by omega)) (f 101 (by omega)) h7, dWW_k (f 102 (by omega)) (f 103 (by omega)) (f 104 (by omega)) (f 107 (by omega)) h8, dH_k (f 47 (by omega)) (f 48 (by omega)) (f 49 (by omega)) h9, dSp_k (by rw [f 43 (by omega)]) (f 44 (by omega)) (f 45 (by omega)) h10, dMa_k (f 109 (by omega)) h11, dTp_k (by rw [f 1 (by omega)]) (f 2 (by omega)) h12, dIm_k (by rw [f 113 (by omega)]) (f 114 (by omega)) h13, ?_⟩
  unfold dMi at *
  rw [f 35 (by omega), f 112 (by omega), f 111 (by omega), f 115 (by omega), f 108 (by omega), f 37 (by omega)]
  refine ⟨h14.1, h14.2.1, h14.2.2.1, h14.2.2.2.1, h14.2.2.2.2.1, h14.2.2.2.2.2.1, h14.2.2.2.2.2.2.1, h14.2.2.2.2.2.2.2.1, h14.2.2.2.2.2.2.2.2.1, ?_⟩
  rcases hgr with e | e
  · subst e
    exact ⟨hz, by rw [f 22 (by omega)]; exact h14.2.2.2.2.2.2.2.2.2.2⟩
  · subst e
    exact ⟨by rw [f 6 (by omega)]; exact h14.2.2.2.2.2.2.2.2.2.1, hz⟩
theorem fill2 {a : Int} {V : ASt} (hO : isO S0 a 100 = true) (hL : aLn S0 a = 2) : Tr (f_Arrays_fill S0 V a 0) (fun _ U => U a 0 = 0 ∧ U a 1 = 0 ∧ ∀ b, b ≠ a → U b = V b) := by
  refine Tr_eq (fill_ok hO hL (by decide) (by decide)) ⟨?_, ?_, fun b hb => arow_n V _ hb⟩
  · rw [arow_s]; exact if_pos ⟨by decide, by decide⟩
  · rw [arow_s]; exact if_pos ⟨by decide, by decide⟩
theorem W_forget {w : Int} {V : ASt} (hO : isO S0 w 11 = true) : Tr (f_Worths_forget S0 V w) (fun _ U => U w 2 = 0 ∧ ∀ b, b ≠ w → U b = V b) := by
  unfold f_Worths_forget
  rw [gd_t hO]
  exact Tr_set (fun U e n => Tr_ret ⟨by rw [e, upI_s], n⟩)
theorem D_game {x : ST} {t : Int} {V : ASt} (h : dIt x t V) (h6 : 0 ≤ xN x 6 ∧ xN x 6 ≤ 1800) (hT : ∀ i, 0 ≤ i → i < xN x 6 → 0 ≤ xT x i ∧ xT x i ≤ 255) (hrf : 0 ≤ xN x 21 ∧ xN x 21 ≤ 100000) : Tr (f_SG_game S0 V 0) (fun r U => r = sGm x ∧ dI (xGm x) U ∧ frX V U) := by
  have h' := h
  obtain ⟨h0, h1, h2, h3, h4, h5, h6', h7, h8, h9, h10, h11, h12, h13, h14⟩ := h
  have htr := gm_r h0
  obtain ⟨g, hgd⟩ : ∃ g, g = 22 - t := ⟨_, rfl⟩
  have hg : isGm g := by
    show g = 3 ∨ g = 19
    omega
  have hgr := gm_r hg
  have e02 : V 0 2 = g := by rw [h1.2.1, hgd]
  have z3 : V (g + 3) 0 = 0 := by
    rcases hgr with e | e
    · rw [e]; exact h14.2.2.2.2.2.2.2.2.2.1
    · rw [e]; exact h14.2.2.2.2.2.2.2.2.2.2
  unfold f_SG_game
  rw [gd_t O_0, F_0_3, gd_t O_35, F_0_0, e02]
  refine Tr_bnd (T_read (T := xT x) (n := xN x 6) hg ⟨h12.1, h6, fun i i0 i1 => ⟨h12.2 i i0 i1, hT i i0 i1⟩⟩ h14.2.2.2.2.2.2.2.2.1 z3) ?_
  rintro r U ⟨fU, uz, hR⟩
  rw [gd_t O_1]
  refine Tr_set (fun V6 e6 n6 => ?_)
  have v6 : ∀ a, a ≠ 1 → a ≠ 35 → a ≠ 36 → a ≠ 38 → a ≠ 39 → a ≠ 40 → (a < g ∨ g + 12 < a) → V6 a = V a := fun a a0 a1 a2 a3 a4 a5 a6 => by rw [n6 a a0, fU a a1 a2 a3 a4 a5 a6]
  have u1 : U 1 = V 1 := fU 1 (by decide) (by decide) (by decide) (by decide) (by decide) (by omega)
  have v35 : V6 35 = U 35 := n6 35 (by decide)
  have vg : ∀ a, g ≤ a → a ≤ g + 15 → V6 a = U a := fun a a1 a2 => n6 a (by omega)
  rcases hR with ⟨m, s, eR, er, em, p0, p1, pD, p2, pO⟩ | ⟨kd, p, eR, er, p0, p1⟩
  · refine Tr_f (by omega) ?_
    have v02 : V6 0 2 = g := by rw [v6 0 (by decide) (by decide) (by decide) (by decide) (by decide) (by decide) (by omega)]; exact e02
    have v01 : V6 0 1 = t := by rw [v6 0 (by decide) (by decide) (by decide) (by decide) (by decide) (by decide) (by omega)]; exact h1.1
    rw [v02, v01, gd_t (show nn t = true by unfold nn; exact decide_eq_true (by omega))]
    refine Tr_set (fun V8 e8 n8 => ?_)
    refine Tr_set (fun V9 e9 n9 => ?_)
    have c0 : V9 0 = upI (upI (V6 0) 1 g) 2 t := by rw [e9, e8]
    have v9 : ∀ a, a ≠ 0 → V9 a = V6 a := fun a ha => by rw [n9 a ha, n8 a ha]
    have d01 : V9 0 1 = g := by rw [c0, upI_n _ _ (by decide), upI_s]
    have G9 : gmD g s V9 := gmD_k pD (fun a a1 a2 => by rw [v9 a (by omega), vg a a1 (by omega)])
    have g92 : V9 g 2 = s.2.2.2.length := by rw [v9 g (by omega), vg g (by omega) (by omega)]; exact p2
    have hG := GOK_q pO
    have hF : qF (gmQ s) ≠ 0 := by rw [gq_F]; have := pO.1; omega
    rw [d01, gd_t (OG hg)]
    refine Tr_bnd (N_num hG hF hg (dG_q G9 g92)) ?_
    rintro _ W ⟨wN, wX, wk, wo⟩
    have w0 : W 0 = V9 0 := wo 0 (by omega) (by omega) (by omega) (by omega)
    have GW : dG (gmQ s) g W := by
      have := dG_q G9 g92
      unfold dG at *
      rw [wk 0 (by decide), wk 1 (by decide), wk 2 (by decide), wk 4 (by decide), wo (g + 6) (by omega) (by omega) (by omega) (by omega), wo (g + 7) (by omega) (by omega) (by omega) (by omega), wo (g + 8) (by omega) (by omega) (by omega) (by omega), wo (g + 9) (by omega) (by omega) (by omega) (by omega), wo (g + 10) (by omega) (by omega) (by omega) (by omega), wo (g + 11) (by omega) (by omega) (by omega) (by omega), wo (g + 12) (by omega) (by omega) (by omega) (by omega)]
      exact this
    have TW : dT (gmQ s) g W := dT_fr (fun o o1 o2 => wo _ (by omega) (by omega) (by omega) (by omega)) (dT_q hg pO (Int.le_refl _) G9)
    have LW : dL (gmQ s) g W := dL_k (wo _ (by omega) (by omega) (by omega) (by omega)) (dL_q G9)
    rw [F_0_4, gd_t O_41, w0, d01]
    refine Tr_bnd (S_takeAsTold (a := 41) (t := g) hG (Or.inl rfl) hg (fun o o1 o2 => ⟨by omega, by omega⟩) GW) ?_
    rintro _ X ⟨xS', xo, -⟩
    refine Tr_set (fun Y eY nY => ?_)
    rw [F_0_15]
    refine Tr_bnd (fill2 O_111 L_111) ?_
    rintro _ Y1 ⟨y1, y2, y3⟩
    rw [F_0_16]
    refine Tr_bnd (fill2 O_112 L_112) ?_
    rintro _ Y2 ⟨y4, y5, y6⟩
    rw [F_0_6, gd_t O_47]
    refine Tr_set (fun Y3 a3 b3 => ?_)
    rw [F_0_5, gd_t O_43]
    refine Tr_set (fun Y4 a4 b4 => ?_)
    rw [F_0_10, gd_t O_96]
    refine Tr_bnd (W_forget O_96) ?_
    rintro _ Y5 ⟨a5, b5⟩
    rw [F_0_11, gd_t O_102]
    refine Tr_bnd (W_forget O_102) ?_
    rintro _ Z ⟨a7, b7⟩
    -- cells that nothing of this touches
    have zo : ∀ a, a ≠ 0 → a ≠ 111 → a ≠ 112 → a ≠ 47 → a ≠ 43 → a ≠ 96 → a ≠ 102 → Z a = X a := fun a q0 q1 q2 q3 q4 q5 q6 => by rw [b7 a q6, b5 a q5, b4 a q4, b3 a q3, y6 a q2, y3 a q1, nY a q0]
    have zw : ∀ a, a ≠ 0 → a ≠ 111 → a ≠ 112 → a ≠ 47 → a ≠ 43 → a ≠ 96 → a ≠ 102 → a ≠ 41 → a ≠ 42 → Z a = W a := fun a q0 q1 q2 q3 q4 q5 q6 q7 q8 => by rw [zo a q0 q1 q2 q3 q4 q5 q6, xo a q7 q8]
    have zv : ∀ a, a ≠ 0 → a ≠ 111 → a ≠ 112 → a ≠ 47 → a ≠ 43 → a ≠ 96 → a ≠ 102 → a ≠ 41 → a ≠ 42 → (a < g ∨ g + 15 < a) → Z a = V6 a := fun a q0 q1 q2 q3 q4 q5 q6 q7 q8 q9 => by rw [zw a q0 q1 q2 q3 q4 q5 q6 q7 q8, wo a (by omega) (by omega) (by omega) (by omega), v9 a q0]
    have z35 : Z 35 = U 35 := by rw [zv 35 (by decide) (by decide) (by decide) (by decide) (by decide) (by decide) (by decide) (by decide) (by decide) (by omega), v35]
    have c0Z : Z 0 = upI (V9 0) 17 0 := by rw [b7 0 (by decide), b5 0 (by decide), b4 0 (by decide), b3 0 (by decide), y6 0 (by decide), y3 0 (by decide), eY, xo 0 (by decide) (by decide), w0]
    have hp : dIp (gmY x s) g Z := by
      refine ⟨hg, ⟨?_, ?_, ?_⟩, gI_k (V := W) (fun o o1 o2 => zw _ (by omega) (by omega) (by omega) (by omega) (by omega) (by omega) (by omega) (by omega) (by omega)) ⟨GW, wN, wX, TW⟩, dL_k (zw _ (by omega) (by omega) (by omega) (by omega) (by omega) (by omega) (by omega) (by omega) (by omega)) LW, dS_fr (zo 41 (by decide) (by decide) (by decide) (by decide) (by decide) (by decide) (by decide)) (zo 42 (by decide) (by decide) (by decide) (by decide) (by decide) (by decide) (by decide)) xS', ?_, Or.inl ?_, Or.inl a7, ⟨?_, fun i i0 i1 => ?_⟩, ⟨?_, fun e => ?_⟩, ⟨?_, fun i i0 i1 => ?_⟩, ⟨?_, fun i i0 i1 => ?_⟩, ?_⟩
      · rw [c0Z, upI_n _ _ (by decide)]; exact d01
      · rw [c0Z, upI_n _ _ (by decide), c0, upI_s]; omega
      · rw [c0Z, upI_s, gN_0 x s (by omega)]
      · have e62 : Z 62 = V 62 := by rw [zv 62 (by decide) (by decide) (by decide) (by decide) (by decide) (by decide) (by decide) (by decide) (by decide) (by omega), v6 62 (by decide) (by decide) (by decide) (by decide) (by decide) (by decide) (by omega)]
        unfold chR
        rw [e62]; exact h6'.2.2
      · rw [b7 96 (by decide)]; exact a5
      · rw [b7 47 (by decide), b5 47 (by decide), b4 47 (by decide), a3, upI_s, gN_0 x s (by omega)]
      · rw [gN_0 x s (by omega)] at i1; omega
      · rw [b7 43 (by decide), b5 43 (by decide), a4, upI_s, gN_0 x s (by omega)]
      · rw [gN_0 x s (by omega)] at e; omega
      · rw [zv 1 (by decide) (by decide) (by decide) (by decide) (by decide) (by decide) (by decide) (by decide) (by decide) (by omega), e6, upI_s, gN_0 x s (by omega)]
      · rw [gN_0 x s (by omega)] at i1; omega
      · rw [zv 113 (by decide) (by decide) (by decide) (by decide) (by decide) (by decide) (by decide) (by decide) (by decide) (by omega), v6 113 (by decide) (by decide) (by decide) (by decide) (by decide) (by decide) (by omega), gN_n x s (by decide) (by decide)]; exact h13.1
      · rw [gN_n x s (by decide) (by decide)] at i1
        rw [zv 114 (by decide) (by decide) (by decide) (by decide) (by decide) (by decide) (by decide) (by decide) (by decide) (by omega), v6 114 (by decide) (by decide) (by decide) (by decide) (by decide) (by decide) (by omega)]; exact h13.2 i i0 i1
      · have q111 : Z 111 0 = 0 ∧ Z 111 1 = 0 := by rw [b7 111 (by decide), b5 111 (by decide), b4 111 (by decide), b3 111 (by decide), y6 111 (by decide)]; exact ⟨y1, y2⟩
        have q112 : Z 112 0 = 0 ∧ Z 112 1 = 0 := by rw [b7 112 (by decide), b5 112 (by decide), b4 112 (by decide), b3 112 (by decide)]; exact ⟨y4, y5⟩
        have zz : ∀ a, a = 115 ∨ a = 108 ∨ a = 37 → Z a = V a := fun a ha => by rw [zv a (by omega) (by omega) (by omega) (by omega) (by omega) (by omega) (by omega) (by omega) (by omega) (by omega), v6 a (by omega) (by omega) (by omega) (by omega) (by omega) (by omega) (by omega)]
        have zg : Z (g + 3) 0 = 0 := by rw [zw (g + 3) (by omega) (by omega) (by omega) (by omega) (by omega) (by omega) (by omega) (by omega) (by omega), wo (g + 3) (by omega) (by omega) (by omega) (by omega), v9 (g + 3) (by omega), vg (g + 3) (by omega) (by omega)]; exact uz
        have zt : Z (t + 3) = V (t + 3) := by rw [zv (t + 3) (by omega) (by omega) (by omega) (by omega) (by omega) (by omega) (by omega) (by omega) (by omega) (by omega), v6 (t + 3) (by omega) (by omega) (by omega) (by omega) (by omega) (by omega) (by omega)]
        unfold dMi
        rw [z35, p0, p1, q111.1, q111.2, q112.1, q112.2, zz 115 (by omega), zz 108 (by omega), zz 37 (by omega), gN_0 x s (k := 7) (by omega), gN_8, gN_0 x s (k := 10) (by omega), gN_0 x s (k := 11) (by omega), gN_0 x s (k := 12) (by omega), gN_0 x s (k := 13) (by omega)]
        refine ⟨rfl, rfl, rfl, rfl, rfl, rfl, fun k k0 k1 => by rw [gN_n x s (by omega) (by omega)]; exact h14.2.2.2.2.2.2.1 k k0 k1, h14.2.2.2.2.2.2.2.1, h14.2.2.2.2.2.2.2.2.1, ?_⟩
        rcases hgr with e | e
        · have ht' : t = 19 := by omega
          rw [e] at zg
          rw [ht'] at zt
          exact ⟨zg, by rw [show (22 : Int) = 19 + 3 from rfl, zt]; exact h14.2.2.2.2.2.2.2.2.2.2⟩
        · have ht' : t = 3 := by omega
          rw [e] at zg
          rw [ht'] at zt
          exact ⟨by rw [show (6 : Int) = 3 + 3 from rfl, zt]; exact h14.2.2.2.2.2.2.2.2.2.1, zg⟩
    refine Tr_bnd (D_startAnew (x := gmY x s) hG (toldS_ok hG) hp) ?_
    rintro _ Q ⟨q1, q2⟩
    refine Tr_ret ⟨?_, ⟨g, ?_⟩, fun a ha => ?_⟩
    · unfold sGm
      rw [eR]; exact er
    · unfold xGm
      rw [eR]; exact q1
    · rw [q2 a ha, zv a (by omega) (by omega) (by omega) (by omega) (by omega) (by omega) (by omega) (by omega) (by omega) (by omega), v6 a (by omega) (by omega) (by omega) (by omega) (by omega) (by omega) (by omega)]
  · refine Tr_t er ?_
    have m' : ∀ j, j ≠ 6 → j ≠ 7 → j ≠ 8 → xN (uN (uN (uN x 6 0) 7 kd) 8 p) j = xN x j := fun j j1 j2 j3 => by rw [uN_n _ _ j3, uN_n _ _ j2, uN_n _ _ j1]
    have m6 : xN (uN (uN (uN x 6 0) 7 kd) 8 p) 6 = 0 := by rw [uN_n _ _ (by decide), uN_n _ _ (by decide), uN_s]
    have m7 : xN (uN (uN (uN x 6 0) 7 kd) 8 p) 7 = kd := by rw [uN_n _ _ (by decide), uN_s]
    have m8 : xN (uN (uN (uN x 6 0) 7 kd) 8 p) 8 = p := by rw [uN_s]
    have hM : dIt (uN (uN (uN x 6 0) 7 kd) 8 p) t (fun a => if g ≤ a ∧ a ≤ g + 12 then V a else V6 a) := by
      have M1 : ∀ a, a ≠ 1 → a ≠ 35 → a ≠ 36 → a ≠ 38 → a ≠ 39 → a ≠ 40 → (fun a => if g ≤ a ∧ a ≤ g + 12 then V a else V6 a) a = V a := by
        intro a q0 q1 q2 q3 q4 q5
        show (if g ≤ a ∧ a ≤ g + 12 then V a else V6 a) = V a
        by_cases z : g ≤ a ∧ a ≤ g + 12
        · rw [if_pos z]
        · rw [if_neg z]; exact v6 a q0 q1 q2 q3 q4 q5 (by omega)
      have M2 : (fun a => if g ≤ a ∧ a ≤ g + 12 then V a else V6 a) 1 = V6 1 := if_neg (by omega)
      have M3 : (fun a => if g ≤ a ∧ a ≤ g + 12 then V a else V6 a) 35 = U 35 := by
        show (if g ≤ 35 ∧ 35 ≤ g + 12 then V 35 else V6 35) = U 35
        rw [if_neg (by omega)]; exact v35
      generalize (fun a => if g ≤ a ∧ a ≤ g + 12 then V a else V6 a) = M at M1 M2 M3
      refine dIt_sc h' rfl rfl rfl (fun k hk => m' k (by omega) (by omega) (by omega)) (fun a ha => M1 a (by omega) (by omega) (by omega) (by omega) (by omega) (by omega)) ?_ ?_ ⟨?_, fun i i0 i1 => ?_⟩ ?_ ?_
      · unfold dA at *
        rw [M1 0 (by decide) (by decide) (by decide) (by decide) (by decide) (by decide), m' 0 (by decide) (by decide) (by decide)]; exact h1
      · unfold dMa at *
        rw [M1 109 (by decide) (by decide) (by decide) (by decide) (by decide) (by decide), m' 3 (by decide) (by decide) (by decide), m' 4 (by decide) (by decide) (by decide), m' 5 (by decide) (by decide) (by decide)]; exact h11
      · rw [M2, e6, upI_s, m6]
      · rw [m6] at i1; omega
      · unfold dIm at *
        rw [M1 113 (by decide) (by decide) (by decide) (by decide) (by decide) (by decide), M1 114 (by decide) (by decide) (by decide) (by decide) (by decide) (by decide), m' 9 (by decide) (by decide) (by decide)]; exact h13
      · unfold dMi at *
        rw [M3, p0, p1, m7, m8, m' 10 (by decide) (by decide) (by decide), m' 11 (by decide) (by decide) (by decide), m' 12 (by decide) (by decide) (by decide), m' 13 (by decide) (by decide) (by decide), M1 112 (by decide) (by decide) (by decide) (by decide) (by decide) (by decide), M1 111 (by decide) (by decide) (by decide) (by decide) (by decide) (by decide), M1 115 (by decide) (by decide) (by decide) (by decide) (by decide) (by decide), M1 108 (by decide) (by decide) (by decide) (by decide) (by decide) (by decide), M1 37 (by decide) (by decide) (by decide) (by decide) (by decide) (by decide), M1 6 (by decide) (by decide) (by decide) (by decide) (by decide) (by decide), M1 22 (by decide) (by decide) (by decide) (by decide) (by decide) (by decide)]
        exact ⟨rfl, rfl, h14.2.2.1, h14.2.2.2.1, h14.2.2.2.2.1, h14.2.2.2.2.2.1, fun k k0 k1 => by rw [m' _ (by omega) (by omega) (by omega)]; exact h14.2.2.2.2.2.2.1 k k0 k1, h14.2.2.2.2.2.2.2⟩
    have hD : dIt (uN (uN (uN x 6 0) 7 kd) 8 p) t V6 := dIt_gm hg hgd hM (fun a ha => by
      show V6 a = (if g ≤ a ∧ a ≤ g + 12 then V a else V6 a)
      rw [if_neg (by omega)]) (by rw [vg (g + 3) (by omega) (by omega)]; exact uz)
    refine Tr_bnd (D_refuse (k := 1) hD (by decide) (by rw [m' _ (by decide) (by decide) (by decide)]; exact hrf)) ?_
    rintro _ Q ⟨q1, q2⟩
    refine Tr_ret ⟨?_, ⟨t, ?_⟩, fun a ha => ?_⟩
    · unfold sGm
      rw [eR]; rfl
    · unfold xGm
      rw [eR]; exact q1
    · rw [q2 a ha, v6 a (by omega) (by omega) (by omega) (by omega) (by omega) (by omega) (by omega)]
