/-! the class's statements: all, and the whole text -/
theorem C_addRule {g m kd ev : Int} {V : ASt} (hg : isGm g) (hm : 0 ≤ m ∧ m < 12) (h2 : V g 2 = m) (hev : ev = 0 ∨ ev = 1) : Tr (f_Game_addRule S0 V g kd ev) (fun _ U => U (g + 8) = upI (V (g + 8)) m kd ∧ U (g + 12) = upI (V (g + 12)) m ev ∧ U (g + 9) = upI (V (g + 9)) m (-1) ∧ U (g + 10) = upI (V (g + 10)) m (-1) ∧ U (g + 11) = upI (V (g + 11)) m 0 ∧ U g = upI (V g) 2 (m + 1) ∧ ∀ a, a ≠ g → (a < g + 8 ∨ g + 12 < a) → U a = V a) := by
  unfold f_Game_addRule
  rw [gd_t (OG hg), FG_9 hg, FG_10 hg, FG_11 hg, FG_12 hg, FG_13 hg, h2, AG8 hg, gd_in (by omega) (by omega)]
  refine Tr_f (by omega) ?_
  refine Tr_set (fun V1 e1 n1 => ?_)
  rw [n1 g (by omega), h2, AG12 hg, gd_in (by omega) (by omega), zb_t hev]
  refine Tr_set (fun V2 e2 n2 => ?_)
  rw [n2 g (by omega), n1 g (by omega), h2, AG9 hg, gd_in (by omega) (by omega)]
  refine Tr_set (fun V3 e3 n3 => ?_)
  rw [n3 g (by omega), n2 g (by omega), n1 g (by omega), h2, AG10 hg, gd_in (by omega) (by omega)]
  refine Tr_set (fun V4 e4 n4 => ?_)
  rw [n4 g (by omega), n3 g (by omega), n2 g (by omega), n1 g (by omega), h2, AG11 hg, gd_in (by omega) (by omega)]
  refine Tr_set (fun V5 e5 n5 => ?_)
  rw [n5 g (by omega), n4 g (by omega), n3 g (by omega), n2 g (by omega), n1 g (by omega), h2, w32_id (by omega) (by omega)]
  refine Tr_set (fun V6 e6 n6 => Tr_ret ⟨?_, ?_, ?_, ?_, ?_, ?_, fun a a1 a2 => by rw [n6 a a1, n5 a (by omega), n4 a (by omega), n3 a (by omega), n2 a (by omega), n1 a (by omega)]⟩)
  · rw [n6 (g + 8) (by omega), n5 (g + 8) (by omega), n4 (g + 8) (by omega), n3 (g + 8) (by omega), n2 (g + 8) (by omega), e1]
  · rw [n6 (g + 12) (by omega), n5 (g + 12) (by omega), n4 (g + 12) (by omega), n3 (g + 12) (by omega), e2, n1 (g + 12) (by omega)]
  · rw [n6 (g + 9) (by omega), n5 (g + 9) (by omega), n4 (g + 9) (by omega), e3, n2 (g + 9) (by omega), n1 (g + 9) (by omega)]
  · rw [n6 (g + 10) (by omega), n5 (g + 10) (by omega), e4, n3 (g + 10) (by omega), n2 (g + 10) (by omega), n1 (g + 10) (by omega)]
  · rw [n6 (g + 11) (by omega), e5, n4 (g + 11) (by omega), n3 (g + 11) (by omega), n2 (g + 11) (by omega), n1 (g + 11) (by omega)]
  · rw [e6, n5 g (by omega), n4 g (by omega), n3 g (by omega), n2 g (by omega), n1 g (by omega)]
/-- rows of rules beyond those told may change -/
theorem gmD_x {g : Int} {s : GS} {V U : ASt} (h : gmD g s V) (hg0 : ∀ j, j ≠ 2 → U g j = V g j) (ho : ∀ o, 1 ≤ o → o ≤ 7 → U (g + o) = V (g + o)) (hr : ∀ o i, 8 ≤ o → o ≤ 12 → i ≠ (s.2.2.2.length : Int) → U (g + o) i = V (g + o) i) : gmD g s U := by
  obtain ⟨g1, g2, g5, g6, g8, g9⟩ := h
  refine ⟨by rw [hg0 0 (by decide)]; exact g1, ?_, ?_, by rw [hg0 4 (by decide)]; exact g6, ?_, ?_⟩
  · unfold nmH at *
    rw [hg0 1 (by decide), ho 5 (by decide) (by decide)]
    exact g2
  · intro i hi
    rw [ho 6 (by decide) (by decide), ho 7 (by decide) (by decide)]
    exact g5 i hi
  · intro i hi
    have hn : (i : Int) ≠ (s.2.2.2.length : Int) := by omega
    rw [hr 8 _ (by decide) (by decide) hn, hr 12 _ (by decide) (by decide) hn, hr 9 _ (by decide) (by decide) hn, hr 10 _ (by decide) (by decide) hn, hr 11 _ (by decide) (by decide) hn]
    exact g8 i hi
  · unfold cdD at *
    rw [ho 1 (by decide) (by decide), ho 2 (by decide) (by decide), ho 3 (by decide) (by decide)]
    exact g9
theorem T_41 {T : Int → Int} {n N g k k0 ev : Int} {s : GS} {R : PR} {V : ASt} (hg : isGm g) (hn : 0 ≤ n ∧ n ≤ 1800) (hL : lstK T n N) (hs : gsO s k0) (hk0 : k0 ≤ k) (hl : V 35 0 = 0 → s.2.2.2.length < 12) (hev : ev = 0 ∨ ev = 1) (h : (CG T n N g k s V ∧ R = ruK (tkK T n) s ev k) ∨ (∃ kd p : Int, R = Sum.inl (kd, p) ∧ FM T n N g kd p V)) :
    Tr (b_Reader_readRule_J41 S0 V 35 ev) (fun _ U => fD g V U ∧ CRs T n N g R U) := by
  have hgr := gm_r hg
  have hN : lsT (tkK T n) N := hL.2.2.2
  unfold b_Reader_readRule_J41
  rcases h with ⟨⟨hk, hX, b0, b1, b3, b5, hD, h2⟩, hR⟩ | ⟨kd, p, hR, hM⟩
  · have hl' := hl b0
    have hkr := kndT_r (kT T n k)
    refine Tr_bq (C_kind hX b3 hk) (Tr_if (fun c => ?_) (fun c => ?_))
    · refine Tr_bnd (C_failN hg hX b3 hk b0 (by decide)) ?_
      rintro _ U hU
      refine Tr_ret ⟨fD_G hg hU.2, Or.inr ⟨1, _, ?_, hU.1⟩⟩
      rw [hR]
      unfold ruK
      rw [if_pos (show kndT ((tkK T n).1 k) = -1 from c)]; rfl
    · have hkN : k < N := lt_of_t hN hk.2 (show kT T n k ≠ 0 by omega) (show kT T n k ≠ 1 by omega)
      refine Tr_bnd (C_step hX b3 ⟨hk.1, hkN⟩) ?_
      rintro _ U ⟨u1, u2⟩
      have XU : CX T n N g U := CX_35 hg hX u2 (by rw [u1, upI_n _ _ (by decide)])
      rw [XU.2.1, gd_t (OG hg)]
      refine Tr_bnd (C_addRule (m := (s.2.2.2.length : Int)) hg (by omega) (by rw [u2 g (by omega)]; exact h2) hev) ?_
      rintro _ W ⟨w8, w12, w9, w10, w11, wg, wo⟩
      have w35 : W 35 = U 35 := wo 35 (by omega) (by omega)
      have XW : CX T n N g W := CX_c XU (by rw [w35]) (fun a a1 a2 => wo a (by omega) (by omega)) (by rw [wo (g + 1) (by omega) (by omega)]; exact XU.2.2.1)
      have d0 : W 35 0 = 0 := by rw [w35, u1, upI_n _ _ (by decide)]; exact b0
      have d1 : W 35 1 = -1 := by rw [w35, u1, upI_n _ _ (by decide)]; exact b1
      have d3 : W 35 3 = k + 1 := by rw [w35, u1, upI_s]
      have d5 : W 35 5 = 0 := by rw [w35, u1, upI_n _ _ (by decide)]; exact b5
      have hk1 : 0 ≤ k + 1 ∧ k + 1 ≤ N := by omega
      have rw8 : ∀ o i, 8 ≤ o → o ≤ 12 → i ≠ (s.2.2.2.length : Int) → W (g + o) i = U (g + o) i := by
        intro o i o1 o2 hi
        have : o = 8 ∨ o = 9 ∨ o = 10 ∨ o = 11 ∨ o = 12 := by omega
        rcases this with e | e | e | e | e <;> subst e
        · rw [w8, upI_n _ _ hi]
        · rw [w9, upI_n _ _ hi]
        · rw [w10, upI_n _ _ hi]
        · rw [w11, upI_n _ _ hi]
        · rw [w12, upI_n _ _ hi]
      have DW : gmD g s W := gmD_x (gmD_35 hg hD u2) (fun j hj => by rw [wg, upI_n _ _ hj]) (fun o o1 o2 => wo _ (by omega) (by omega)) rw8
      have HW : RHd g s.2.2.2.length (kndT (kT T n k)) ev (-1) (-1) 0 W := ⟨by rw [w8, upI_s], by rw [w12, upI_s], by rw [w9, upI_s], by rw [w10, upI_s], by rw [w11, upI_s]⟩
      have fW : fD g V W := ⟨fun a a1 a2 => by rw [wo a (by omega) (by omega), u2 a a1], by rw [wo (g + 3) (by omega) (by omega), u2 (g + 3) (by omega)]⟩
      have h3W : W (g + 1) 3 = s.2.2.2.length := DW.2.2.2.2.2.2.1
      have h2W : W g 2 = s.2.2.2.length + 1 := by rw [wg, upI_s]
      have mv : kndT (kT T n k) < 2 → Tr (b_Reader_readRule_J79 S0 W 35) (fun _ U => fD g V U ∧ CRs T n N g R U) := by
        intro c2
        unfold b_Reader_readRule_J79
        refine Tr_bnd (T_move (m := (s.2.2.2.length : Int)) (k := k + 1) (ns := nsG s) (R := R) (P := gmD g s W ∧ RHd g s.2.2.2.length (kndT (kT T n k)) ev (-1) (-1) 0 W) (f := fun k3 pc wy st => ruE (tkK T n) s (kndT (kT T n k)) ev k3 pc wy st) hg hn.1 hL DW.2.1 (by omega) h2W (Or.inl ⟨⟨DW, HW⟩, hk1, XW, d0, d1, d3, d5, ?_⟩)) ?_
        · rw [hR]
          unfold ruK
          rw [if_neg (show ¬ kndT ((tkK T n).1 k) = -1 from c), if_pos (show kndT ((tkK T n).1 k) < 2 from c2)]
          rfl
        · rintro _ X ⟨fX, x3, xg0, k3, pc, wy, st, hk3, cX⟩
          have xg : fD g V X := fD_tr fW fX
          refine Tr_mono (T_83 (k := k3) (k0 := k0) hg hn hL hs (by omega) hl' (by rw [x3 3 (by decide)]; exact h3W) ?_ (Ct_P cX ?_)) (fun _ Y hY => ⟨fD_tr xg hY.1, hY.2⟩)
          · rw [xg0]; exact h2W
          · rintro ⟨⟨p1, p2⟩, q9, q10, q11, qo⟩
            refine ⟨gmD_x p1 (fun j _ => by rw [qo g (by omega) (by omega) (by omega) (by omega)]) (fun o o1 o2 => qo _ (by omega) (by omega) (by omega) (by omega)) (fun o i o1 o2 hi => ?_), ?_, ?_, ?_, ?_, ?_⟩
            · have : o = 8 ∨ o = 9 ∨ o = 10 ∨ o = 11 ∨ o = 12 := by omega
              rcases this with e | e | e | e | e <;> subst e
              · rw [qo (g + 8) (by omega) (by omega) (by omega) (by omega)]
              · rw [q9, upI_n _ _ hi]
              · rw [q10, upI_n _ _ hi]
              · rw [q11, upI_n _ _ hi]
              · rw [qo (g + 12) (by omega) (by omega) (by omega) (by omega)]
            · rw [qo (g + 8) (by omega) (by omega) (by omega) (by omega)]; exact p2.1
            · rw [qo (g + 12) (by omega) (by omega) (by omega) (by omega)]; exact p2.2.1
            · rw [q9, upI_s]
            · rw [q10, upI_s]
            · rw [q11, upI_s]
      refine Tr_if (fun q => mv (by omega)) (fun q => Tr_if (fun q2 => mv (by omega)) (fun q2 => ?_))
      refine Tr_mono (T_83 (k := k + 1) (k0 := k0) (R := R) hg hn hL hs (by omega) hl' h3W h2W (Or.inl ⟨⟨DW, HW⟩, hk1, XW, d0, d1, d3, d5, ?_⟩)) (fun _ Y hY => ⟨fD_tr fW hY.1, hY.2⟩)
      rw [hR]
      unfold ruK
      rw [if_neg (show ¬ kndT ((tkK T n).1 k) = -1 from c), if_neg (show ¬ kndT ((tkK T n).1 k) < 2 by show ¬ kndT (kT T n k) < 2; omega)]
      rfl
  · have hN' : kT T n N = 0 ∨ kT T n N = 1 := hN
    have hw : kndT (kT T n N) = -1 := by
      have := kndT_r (kT T n N)
      omega
    refine Tr_bq (C_kind hM.1 hM.2.2.2.2 ⟨hM.1.2.2.2.1, Int.le_refl N⟩) (Tr_t hw ?_)
    refine Tr_bnd (C_failM hg hM) ?_
    rintro _ W hW
    exact Tr_ret ⟨fD_G hg hW.2, Or.inr ⟨kd, p, hR, hW.1⟩⟩
theorem CG_st {T : Int → Int} {n N g k : Int} {s : GS} {V U : ASt} (hg : isGm g) (h : CG T n N g k s V) (hk : k < N) (e : U 35 = upI (V 35) 3 (k + 1)) (f : ∀ a, a ≠ 35 → U a = V a) : CG T n N g (k + 1) s U := by
  have hgr := gm_r hg
  obtain ⟨h1, h2, h3, h4, h5, h6, h7, h8⟩ := h
  exact ⟨⟨by omega, by omega⟩, CX_35 hg h2 f (by rw [e, upI_n _ _ (by decide)]), by rw [e, upI_n _ _ (by decide)]; exact h3, by rw [e, upI_n _ _ (by decide)]; exact h4, by rw [e, upI_s], by rw [e, upI_n _ _ (by decide)]; exact h6, gmD_35 hg h7 f, by rw [f g (by omega)]; exact h8⟩
theorem T_rule {T : Int → Int} {n N g k : Int} {s : GS} {V : ASt} (hg : isGm g) (hn : 0 ≤ n ∧ n ≤ 1800) (hL : lstK T n N) (hs : gsO s k) (h : CG T n N g k s V) : Tr (f_Reader_readRule S0 V 35) (fun _ U => fD g V U ∧ CRs T n N g (ruS (tkK T n) s k) U) := by
  have hgr := gm_r hg
  have hN : lsT (tkK T n) N := hL.2.2.2
  have hN' : kT T n N = 0 ∨ kT T n N = 1 := hN
  have h' := h
  obtain ⟨hk, hX, b0, b1, b3, b5, hD, h2⟩ := h
  have hl := hs.2.2.2.2.1
  unfold f_Reader_readRule
  rw [gd_t O_35, hX.2.1, gd_t (OG hg), h2]
  refine Tr_if (fun c => ?_) (fun c => ?_)
  · refine Tr_bnd (C_failN hg hX b3 hk b0 (by decide)) ?_
    rintro _ U hU
    unfold b_Reader_readRule_J17
    refine Tr_bq (FM_type hU.1) (Tr_f (by omega) ?_)
    unfold b_Reader_readRule_J32
    refine Tr_t rfl ?_
    refine Tr_mono (T_41 (k := k) (k0 := k) (R := ruS (tkK T n) s k) hg hn hL hs (Int.le_refl _) (fun z => absurd z (by rw [hU.1.2.1]; decide)) (Or.inl rfl) (Or.inr ⟨5, _, ?_, hU.1⟩)) (fun _ W hW => ⟨fD_tr (fD_G hg hU.2) hW.1, hW.2⟩)
    unfold ruS
    rw [if_pos (by omega)]; rfl
  · unfold b_Reader_readRule_J17
    refine Tr_bq (C_type hX b3 hk) (Tr_if (fun d => ?_) (fun d => ?_))
    · have hkN : k < N := lt_of_t hN hk.2 (show kT T n k ≠ 0 by omega) (show kT T n k ≠ 1 by omega)
      unfold b_Reader_readRule_J32
      refine Tr_f (by decide) (Tr_bnd (C_step hX b3 ⟨hk.1, hkN⟩) ?_)
      rintro _ U ⟨u1, u2⟩
      refine Tr_mono (T_41 (k := k + 1) (k0 := k) (R := ruS (tkK T n) s k) hg hn hL hs (by omega) (fun _ => by omega) (Or.inr rfl) (Or.inl ⟨CG_st hg h' hkN u1 u2, ?_⟩)) (fun _ W hW => ⟨fD_tr ⟨fun a a1 _ => u2 a a1, by rw [u2 (g + 3) (by omega)]⟩ hW.1, hW.2⟩)
      unfold ruS
      rw [if_neg (by omega), if_pos (show (tkK T n).1 k = 260 from d)]
    · unfold b_Reader_readRule_J32
      refine Tr_t rfl (T_41 (k := k) (k0 := k) (R := ruS (tkK T n) s k) hg hn hL hs (Int.le_refl _) (fun _ => by omega) (Or.inl rfl) (Or.inl ⟨h', ?_⟩))
      unfold ruS
      rw [if_neg (by omega), if_neg (show ¬ (tkK T n).1 k = 260 from d)]
theorem T_smt {T : Int → Int} {n N g k : Int} {s : GS} {V : ASt} (hg : isGm g) (hn : 0 ≤ n ∧ n ≤ 1800) (hL : lstK T n N) (hs : gsO s k) (h : CG T n N g k s V) : Tr (f_Reader_readStatement S0 V 35) (fun _ U => fD g V U ∧ CRs T n N g (stb (tkK T n) s k) U) := by
  have h' := h
  obtain ⟨hk, hX, b0, b1, b3, b5, hD, h2⟩ := h
  have hNn := hL.2.1
  have hT := C_type hX b3 hk
  unfold f_Reader_readStatement
  rw [gd_t O_35]
  refine Tr_bq hT (Tr_if (fun c => ?_) (fun c => ?_))
  · refine Tr_bnd (T_piece hg hn.1 hL hs (by omega) h' c) (fun _ U hU => Tr_ret ⟨hU.1, ?_⟩)
    unfold stb
    rw [if_pos (show (tkK T n).1 k = 257 from c)]; exact hU.2
  refine Tr_bq hT (Tr_if (fun d => ?_) (fun d => ?_))
  · refine Tr_bnd (T_stuck hg hL h' d) (fun _ U hU => Tr_ret ⟨hU.1, ?_⟩)
    unfold stb
    rw [if_neg (show ¬ (tkK T n).1 k = 257 from c), if_pos (show (tkK T n).1 k = 261 from d)]; exact hU.2
  have rul : ((tkK T n).1 k = 260 ∨ kndT ((tkK T n).1 k) ≠ -1) → Tr (b_Reader_readStatement_J52 S0 V 35) (fun _ U => fD g V U ∧ CRs T n N g (stb (tkK T n) s k) U) := by
    intro e
    unfold b_Reader_readStatement_J52
    refine Tr_bnd (T_rule hg hn hL hs h') (fun _ U hU => Tr_ret ⟨hU.1, ?_⟩)
    unfold stb
    rw [if_neg (show ¬ (tkK T n).1 k = 257 from c), if_neg (show ¬ (tkK T n).1 k = 261 from d), if_pos e]; exact hU.2
  refine Tr_bq hT (Tr_if (fun e => rul (Or.inl e)) (fun e => ?_))
  refine Tr_bq (C_kind hX b3 hk) (Tr_if (fun q => ?_) (fun q => rul (Or.inr q)))
  refine Tr_bnd (C_failN hg hX b3 hk b0 (by decide)) (fun _ U hU => Tr_ret ⟨fD_G hg hU.2, Or.inr ⟨1, _, ?_, hU.1⟩⟩)
  unfold stb
  rw [if_neg (show ¬ (tkK T n).1 k = 257 from c), if_neg (show ¬ (tkK T n).1 k = 261 from d), if_neg (fun z => z.elim e (fun y => y q))]; rfl
