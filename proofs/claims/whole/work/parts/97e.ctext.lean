/-! the class's reader: the whole text -/
theorem T_board {T : Int → Int} {n N g : Int} {V : ASt} (hg : isGm g) (hL : lstK T n N) (hX : CX T n N g V) (b0 : V 35 0 = 0) (b1 : V 35 1 = -1) (b3 : V 35 3 = 0) (b5 : V 35 5 = 0) (z0 : V g 1 = 0 ∧ V g 2 = 0 ∧ V g 4 = 0) (z1 : V (g + 1) 2 = 0 ∧ V (g + 1) 3 = 0) (z3 : V (g + 3) 0 = 0) {Q : Int → ASt → Prop} {F : ASt → Option (Int × ASt)}
    (hQ : ∀ U, fD g V U → CRs T n N g (bdS (tkK T n)) U → Tr (F U) Q) : Tr (bnd (f_Reader_readBoard S0 V 35) (fun _ U => bnd (f_Reader_take S0 U 35 59) (fun _ W => F W))) Q := by
  have hgr := gm_r hg
  have hN0 := hL.1
  have h0 : Ct T n N g True 0 (bdS (tkK T n)) (tkw (tkK T n) 256 0 (fun k => nmb (tkK T n) 2 9 k (fun k2 v => tkw (tkK T n) 59 k2 (fun k3 => Sum.inr (k3, (v, [], 0, [])))))) V := Or.inl ⟨trivial, ⟨Int.le_refl _, hN0⟩, hX, b0, b1, b3, b5, rfl⟩
  have key : Tr (f_Reader_readBoard S0 V 35) (fun _ U => fD g V U ∧ ∃ k v, Ct T n N g (U g = upI (V g) 0 v ∧ ∀ a, a ≠ 35 → a ≠ g → U a = V a) k (bdS (tkK T n)) (tkw (tkK T n) 59 k (fun k3 => Sum.inr (k3, (v, [], 0, [])))) U) := by
    unfold f_Reader_readBoard
    rw [gd_t O_35]
    refine Tr_bnd (T_take hg hL (by decide) h0) ?_
    rintro _ U ⟨fU, c1⟩
    refine Tr_bnd (T_num hg hL c1) ?_
    rintro v W ⟨fW, c2⟩
    rw [(Ct_CX c1).2.1, gd_t (OG hg)]
    refine Tr_set (fun X eX nX => Tr_ret ?_)
    have x35 : X 35 = W 35 := nX 35 (by omega)
    have xl : 0 ≤ X (g + 1) 2 ∧ X (g + 1) 2 ≤ 1800 := by rw [nX (g + 1) (by omega)]; exact (Ct_CX c2).2.2.1
    have fV := frG_tr fU fW
    refine ⟨⟨fun a a1 a2 => by rw [nX a (by omega), fV.1 a a1 (by omega) (by omega)], by rw [nX (g + 3) (by omega), fV.1 (g + 3) (by omega) (by omega) (by omega)]⟩, 0 + 1 + 1, v, ?_⟩
    rcases c2 with ⟨⟨⟨-, ex⟩, ex2⟩, hk, hX2, d0, d1, d3, d5, dR⟩ | ⟨kd, p, dR, dM⟩
    · exact Or.inl ⟨⟨by rw [eX, ex2 g (by omega), ex g (by omega)], fun a a1 a2 => by rw [nX a a2, ex2 a a1, ex a a1]⟩, hk, CX_c hX2 (by rw [x35]) (fun a a1 a2 => nX a (by omega)) xl, by rw [x35]; exact d0, by rw [x35]; exact d1, by rw [x35]; exact d3, by rw [x35]; exact d5, dR⟩
    · exact Or.inr ⟨kd, p, dR, FM_c dM x35 (fun a a1 a2 => nX a (by omega)) xl⟩
  refine Tr_bnd key ?_
  rintro _ U ⟨fU, k, v, c1⟩
  refine Tr_bnd (T_take hg hL (by decide) c1) ?_
  rintro _ W ⟨fW, c2⟩
  refine hQ W (fD_tr fU (fD_G hg fW)) ?_
  rcases c2 with ⟨⟨⟨eg, eo⟩, ex⟩, hk, hX2, d0, d1, d3, d5, dR⟩ | ⟨kd, p, dR, dM⟩
  · have wg : W g = upI (V g) 0 v := by rw [ex g (by omega), eg]
    have wo : ∀ a, a ≠ 35 → a ≠ g → W a = V a := fun a a1 a2 => by rw [ex a a1, eo a a1 a2]
    refine Or.inl ⟨_, _, dR, hk, hX2, d0, d1, d3, d5, ⟨by rw [wg, upI_s], ⟨by rw [wg, upI_n _ _ (by decide)]; exact z0.1, by show 0 ≤ 2; decide, fun i hi => absurd hi (Nat.not_lt_zero i)⟩, fun i hi => absurd hi (Nat.not_lt_zero i), by rw [wg, upI_n _ _ (by decide)]; exact z0.2.2, fun i hi => absurd hi (Nat.not_lt_zero i), ?_⟩, by rw [wg, upI_n _ _ (by decide)]; exact z0.2.1⟩
    refine ⟨by rw [wo (g + 1) (by omega) (by omega)]; exact z1.1, by rw [wo (g + 1) (by omega) (by omega)]; exact z1.2, by rw [wo (g + 3) (by omega) (by omega)]; exact z3, fun i hi => absurd hi (Nat.not_lt_zero i), fun i hi => absurd hi (Nat.not_lt_zero i)⟩
  · exact Or.inr ⟨kd, p, dR, dM⟩
def CE (T : Int → Int) (n N g c : Int) (R : PR) (U : ASt) : Prop := (∃ m s, R = Sum.inr (m, s) ∧ c = m ∧ 1 ≤ m ∧ U 35 0 = 0 ∧ U 35 1 = -1 ∧ gmD g s U ∧ U g 2 = s.2.2.2.length ∧ gsO s 1800) ∨ (∃ kd p : Int, R = Sum.inl (kd, p) ∧ FM T n N g kd p U)
theorem T_loop {T : Int → Int} {n N g : Int} (hg : isGm g) (hn : 0 ≤ n ∧ n ≤ 1800) (hL : lstK T n N) {Q : Int → ASt → Prop} : ∀ (f gf : Nat) (c k : Int) (s : GS) (V V0 : ASt), fD g V0 V → CG T n N g k s V → gsO s k → N - k + 1 < f → N - k < gf → 1 ≤ c → c ≤ k →
    (∀ U c', fD g V0 U → CE T n N g c' (gml (tkK T n) gf c k s) U → Tr (b_Reader_readGame_J96 S0 U 35 c') Q) → Tr (b_Reader_readGame_L55 S0 35 f V c (c - 1)) Q := by
  have hN : lsT (tkK T n) N := hL.2.2.2
  have hNn := hL.2.1
  intro f
  induction f with
  | zero => intro gf c k s V V0 _ h _ hf; have := h.1; omega
  | succ f ih =>
    intro gf c k s V V0 hV0 h hs hf hgf hc1 hck hQ
    obtain ⟨gf, rfl⟩ : ∃ g', gf = g' + 1 := ⟨gf - 1, by have := h.1; omega⟩
    have h' := h
    obtain ⟨hk, hX, b0, b1, b3, b5, hD, h2⟩ := h
    rw [b_Reader_readGame_L55]
    refine Tr_f (by omega) (Tr_t b0 (Tr_bq (C_type hX b3 hk) (Tr_if (fun d => ?_) (fun d => ?_))))
    · refine hQ V c hV0 (Or.inl ⟨c, s, ?_, rfl, hc1, b0, b1, hD, h2, gsO_m hs (by omega)⟩)
      rw [gml, if_pos (show (tkK T n).1 k = 0 from d)]
    · have hgm : gml (tkK T n) (gf + 1) c k s = pbd (smt (tkK T n) s k) (fun k2 s2 => gml (tkK T n) gf (c + 1) k2 s2) := by rw [gml, if_neg (show ¬ (tkK T n).1 k = 0 from d)]
      have hok := (okS_smt hN (tk_nu hn.1) (tk_nm (N := N) hn.1) hk.1 hk.2 hs).2
      refine Tr_bnd (T_smt hg hn hL hs h') ?_
      rintro _ U ⟨fU, cU⟩
      have step : ∃ j t, Ct T n N g (gmD g t U ∧ U g 2 = t.2.2.2.length) j (smt (tkK T n) s k) (tkw (tkK T n) 59 j (fun k3 => Sum.inr (k3, t))) U := by
        rcases cU with ⟨j, t, e1, e2, e3, e4, e5, e6, e7, e8, e9⟩ | ⟨kd, p, e1, e2⟩
        · refine ⟨j, t, Or.inl ⟨⟨e8, e9⟩, e2, e3, e4, e5, e6, e7, ?_⟩⟩
          unfold smt
          rw [e1]; rfl
        · refine ⟨0, s, Or.inr ⟨kd, p, ?_, e2⟩⟩
          unfold smt
          rw [e1]; rfl
      obtain ⟨j, t, cJ⟩ := step
      refine Tr_bnd (T_take hg hL (by decide) cJ) ?_
      rintro _ W ⟨fW, cW⟩
      have fVW : fD g V0 W := fD_tr hV0 (fD_tr fU (fD_G hg fW))
      rw [w32_id (x := c + 1) (by omega) (by omega), w32_id (x := c - 1 + 1) (by omega) (by omega)]
      rcases cW with ⟨⟨⟨q1, q2⟩, ex⟩, hk', hX', d0, d1, d3, d5, dR⟩ | ⟨kd, p, dR, dM⟩
      · have ho := hok _ _ dR
        have hgr := gm_r hg
        rw [show c - 1 + 1 = c + 1 - 1 by omega]
        refine ih gf (c + 1) (j + 1) t W V0 fVW ⟨hk', hX', d0, d1, d3, d5, gmD_35 hg q1 ex, by rw [ex g (by omega)]; exact q2⟩ ho.2.2 (by omega) (by omega) (by omega) (by omega) (fun X c' x1 x2 => hQ X c' x1 ?_)
        rw [hgm, dR]; exact x2
      · obtain ⟨f', rfl⟩ : ∃ f', f = f' + 1 := ⟨f - 1, by omega⟩
        have hE : CE T n N g (c + 1) (gml (tkK T n) (gf + 1) c k s) W := Or.inr ⟨kd, p, by rw [hgm, dR]; rfl, dM⟩
        rw [b_Reader_readGame_L55]
        exact Tr_if (fun _ => hQ W (c + 1) fVW hE) (fun _ => Tr_f (by rw [dM.2.1]; exact dM.2.2.1) (hQ W (c + 1) fVW hE))
theorem T_clear {g : Int} {V : ASt} (hg : isGm g) : Tr (f_Game_clear S0 V g) (fun _ U => (U g 1 = 0 ∧ U g 2 = 0 ∧ U g 4 = 0) ∧ (U (g + 1) 2 = 0 ∧ U (g + 1) 3 = 0) ∧ ∀ a, a ≠ g → a ≠ g + 1 → U a = V a) := by
  unfold f_Game_clear
  rw [gd_t (OG hg), FG_5 hg]
  refine Tr_set (fun V1 e1 n1 => ?_)
  refine Tr_set (fun V2 e2 n2 => ?_)
  refine Tr_set (fun V3 e3 n3 => ?_)
  refine Tr_set (fun V4 e4 n4 => ?_)
  refine Tr_set (fun V5 e5 n5 => ?_)
  have c5 : V5 g = upI (upI (upI (upI (upI (V g) 0 0) 1 0) 2 0) 3 0) 4 0 := by rw [e5, e4, e3, e2, e1]
  rw [gd_t (OG1 hg)]
  unfold f_Tests_clear
  rw [gd_t (OG1 hg)]
  refine Tr_bnd (P := fun _ U => (U g 1 = 0 ∧ U g 2 = 0 ∧ U g 4 = 0) ∧ (U (g + 1) 2 = 0 ∧ U (g + 1) 3 = 0) ∧ ∀ a, a ≠ g → a ≠ g + 1 → U a = V a) ?_ (fun _ U hU => Tr_ret hU)
  refine Tr_set (fun V6 e6 n6 => ?_)
  refine Tr_set (fun V7 e7 n7 => Tr_ret ?_)
  refine ⟨?_, ⟨by rw [e7, upI_n _ _ (by decide), e6, upI_s], by rw [e7, upI_s]⟩, fun a a1 a2 => by rw [n7 a a2, n6 a a2, n5 a a1, n4 a a1, n3 a a1, n2 a a1, n1 a a1]⟩
  rw [n7 g (by omega), n6 g (by omega), c5]
  refine ⟨?_, ?_, ?_⟩
  · rw [upI_n _ _ (by decide), upI_n _ _ (by decide), upI_n _ _ (by decide), upI_s]
  · rw [upI_n _ _ (by decide), upI_n _ _ (by decide), upI_s]
  · rw [upI_s]
def RGm (g : Int) (R : PR) (r : Int) (U : ASt) : Prop := (∃ m s, R = Sum.inr (m, s) ∧ r = m ∧ 1 ≤ m ∧ U 35 0 = 0 ∧ U 35 1 = -1 ∧ gmD g s U ∧ U g 2 = s.2.2.2.length ∧ gsO s 1800) ∨ (∃ kd p : Int, R = Sum.inl (kd, p) ∧ r = -1 ∧ U 35 0 = kd ∧ U 35 1 = p)
theorem T_read {T : Int → Int} {n g : Int} {V : ASt} (hg : isGm g) (hT : tpC T n V) (hoc : ∀ j, 0 ≤ j → j < 23 → V 37 j = ocd j) (z3 : V (g + 3) 0 = 0) : Tr (f_Reader_readGame S0 V 35 1 g) (fun r U => (∀ a, a ≠ 35 → a ≠ 36 → a ≠ 38 → a ≠ 39 → a ≠ 40 → (a < g ∨ g + 12 < a) → U a = V a) ∧ U (g + 3) 0 = 0 ∧ RGm g (gmS (tkK T n)) r U) := by
  have hgr := gm_r hg
  have hn := hT.2.1
  obtain ⟨N, hL⟩ := lstK_ex (T := T) (n := n) hn.1
  have hNn := hL.2.1
  have hN0 := hL.1
  unfold f_Reader_readGame
  rw [gd_t O_35]
  refine Tr_set (fun V1 e1 n1 => ?_)
  rw [e1, upI_s, gd_t (OG hg)]
  refine Tr_bnd (T_clear hg) ?_
  rintro _ V2 ⟨c1, c2, c3⟩
  refine Tr_set (fun V3 e3 n3 => ?_)
  refine Tr_set (fun V4 e4 n4 => ?_)
  refine Tr_set (fun V5 e5 n5 => ?_)
  refine Tr_set (fun V6 e6 n6 => ?_)
  have o6 : ∀ a, a ≠ 35 → V6 a = V2 a := fun a ha => by rw [n6 a ha, n5 a ha, n4 a ha, n3 a ha]
  have p6 : ∀ a, a ≠ 35 → a ≠ g → a ≠ g + 1 → V6 a = V a := fun a a1 a2 a3 => by rw [o6 a a1, c3 a a2 a3, n1 a a1]
  have d6 : V6 35 = upI (upI (upI (upI (V2 35) 0 0) 1 (-1)) 5 0) 3 0 := by rw [e6, e5, e4, e3]
  have e35 : V2 35 = upI (V 35) 4 g := by rw [c3 35 (by omega) (by omega), e1]
  rw [F_35_2, gd_t O_36]
  refine Tr_bnd (C_cut (T := T) (n := n) (N := N) (V := V6) ⟨by rw [p6 1 (by decide) (by omega) (by omega)]; exact hT.1, hn, fun i i0 i1 => by rw [p6 2 (by decide) (by omega) (by omega)]; exact hT.2.2 i i0 i1⟩ hL (fun j j0 j1 => by rw [p6 37 (by decide) (by omega) (by omega)]; exact hoc j j0 j1)) ?_
  rintro _ W ⟨w1, w2⟩
  have w35 : W 35 = V6 35 := w2 35 (by decide) (by decide) (by decide) (by decide)
  have wg : ∀ a, g ≤ a → a ≤ g + 15 → W a = V6 a := fun a a1 a2 => w2 a (by omega) (by omega) (by omega) (by omega)
  have q0 : W 35 0 = 0 := by rw [w35, d6, upI_n _ _ (by decide), upI_n _ _ (by decide), upI_n _ _ (by decide), upI_s]
  have q1 : W 35 1 = -1 := by rw [w35, d6, upI_n _ _ (by decide), upI_n _ _ (by decide), upI_s]
  have q3 : W 35 3 = 0 := by rw [w35, d6, upI_s]
  have q5 : W 35 5 = 0 := by rw [w35, d6, upI_n _ _ (by decide), upI_s]
  have q4 : W 35 4 = g := by rw [w35, d6, upI_n _ _ (by decide), upI_n _ _ (by decide), upI_n _ _ (by decide), upI_n _ _ (by decide), e35, upI_s]
  have y0 : W g 1 = 0 ∧ W g 2 = 0 ∧ W g 4 = 0 := by rw [wg g (by omega) (by omega), o6 g (by omega)]; exact c1
  have y1 : W (g + 1) 2 = 0 ∧ W (g + 1) 3 = 0 := by rw [wg (g + 1) (by omega) (by omega), o6 (g + 1) (by omega)]; exact c2
  have y3 : W (g + 3) 0 = 0 := by rw [wg (g + 3) (by omega) (by omega), p6 (g + 3) (by omega) (by omega) (by omega)]; exact z3
  have hX : CX T n N g W := ⟨w1, q4, by omega, by omega⟩
  have frW : ∀ U, fD g W U → (∀ a, a ≠ 35 → a ≠ 36 → a ≠ 38 → a ≠ 39 → a ≠ 40 → (a < g ∨ g + 12 < a) → U a = V a) ∧ U (g + 3) 0 = 0 := fun U hU => ⟨fun a a1 a2 a3 a4 a5 a6 => by rw [hU.1 a a1 a6, w2 a a2 a3 a4 a5, p6 a a1 (by omega) (by omega)], by rw [hU.2]; exact y3⟩
  have fin : ∀ U c, fD g W U → CE T n N g c (gmS (tkK T n)) U → Tr (b_Reader_readGame_J96 S0 U 35 c) (fun r U => (∀ a, a ≠ 35 → a ≠ 36 → a ≠ 38 → a ≠ 39 → a ≠ 40 → (a < g ∨ g + 12 < a) → U a = V a) ∧ U (g + 3) 0 = 0 ∧ RGm g (gmS (tkK T n)) r U) := by
    intro U c fU hE
    have := frW U fU
    unfold b_Reader_readGame_J96
    rcases hE with ⟨m, s, a1, a2, a3, a4, a5, a6, a7, a8⟩ | ⟨kd, p, a1, a2⟩
    · exact Tr_t a4 (Tr_ret ⟨this.1, this.2, Or.inl ⟨m, s, a1, a2, a3, a4, a5, a6, a7, a8⟩⟩)
    · exact Tr_f (by rw [a2.2.1]; exact a2.2.2.1) (Tr_ret ⟨this.1, this.2, Or.inr ⟨kd, p, a1, rfl, a2.2.1, a2.2.2.2.1⟩⟩)
  refine T_board hg hL hX q0 q1 q3 q5 y0 y1 y3 (fun U fU cU => ?_)
  have hgs : gmS (tkK T n) = pbd (bdS (tkK T n)) (fun k s => gml (tkK T n) 2000 1 k s) := rfl
  rcases cU with ⟨j, s, a1, a2, a3, a4, a5, a6, a7, a8, a9⟩ | ⟨kd, p, a1, a2⟩
  · have ho := okS_bdS (K := tkK T n) (show lsT (tkK T n) N from hL.2.2.2) hL.1 j s a1
    refine T_loop hg hn hL FU 2000 1 j s U W fU ⟨a2, a3, a4, a5, a6, a7, a8, a9⟩ ho.2.2 (by rw [FU_v]; omega) (by omega) (by decide) (by omega) (fun X c x1 x2 => fin X c x1 ?_)
    rw [hgs, a1]; exact x2
  · obtain ⟨m, hm⟩ : ∃ m, FU = m + 1 := ⟨99999, rfl⟩
    rw [hm, b_Reader_readGame_L55]
    refine Tr_f (by decide) (Tr_f (by rw [a2.2.1]; exact a2.2.2.1) (fin U 1 fU (Or.inr ⟨kd, p, ?_, a2⟩)))
    rw [hgs, a1]; rfl
