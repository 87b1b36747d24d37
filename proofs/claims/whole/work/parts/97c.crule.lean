/-! the class's statements: rules -/
theorem T_move {T : Int → Int} {n N g k m : Int} {ns : List (List Int)} {P : Prop} {R : PR} {f : Int → Int → Int → Int → PR} {V : ASt} (hg : isGm g) (hn : 0 ≤ n) (hL : lstK T n N) (hnm : nmH ns g V) (hm : 0 ≤ m ∧ m < 12) (h2 : V g 2 = m + 1) (h : Ct T n N g P k R (ask (tkK T n) ns k (fun k2 pc => mvE (tkK T n) k2 pc f)) V) :
    Tr (f_Reader_readMove S0 V 35) (fun _ U => fD g V U ∧ (∀ j, j ≠ 2 → U (g + 1) j = V (g + 1) j) ∧ U g = V g ∧ ∃ k3 pc wy st, k ≤ k3 ∧ Ct T n N g (P ∧ U (g + 9) = upI (V (g + 9)) m pc ∧ U (g + 10) = upI (V (g + 10)) m wy ∧ U (g + 11) = upI (V (g + 11)) m st ∧ ∀ a, a ≠ 35 → a ≠ g + 9 → a ≠ g + 10 → a ≠ g + 11 → U a = V a) k3 R (f k3 pc wy st) U) := by
  have hgr := gm_r hg
  have hN : lsT (tkK T n) N := hL.2.2.2
  have hN' : kT T n N = 0 ∨ kT T n N = 1 := hN
  unfold f_Reader_readMove
  rw [gd_t O_35]
  refine Tr_bnd (T_name hg hn hL hnm h) ?_
  rintro y U ⟨fU, c1⟩
  have ug : U g = V g := fU.1 g (by omega) (by omega) (by omega)
  rcases c1 with ⟨⟨hP, ex⟩, hk, hX, b0, b1, b3, b5, hR⟩ | ⟨kd, p, hR, hM⟩
  · refine Tr_bq (C_way hX b3 hk) ?_
    have hwr := wayT_r (kT T n (k + 1))
    unfold mvE at hR
    refine Tr_if (fun c => ?_) (fun c => ?_)
    · rw [if_pos (show wayT ((tkK T n).1 (k + 1)) = -1 from c)] at hR
      refine Tr_bnd (C_failN hg hX b3 hk b0 (by decide)) ?_
      rintro _ W hW
      have fW := frG_tr fU hW.2
      exact Tr_ret ⟨fD_G hg fW, fW.2.2, fW.1 g (by omega) (by omega) (by omega), k, 0, 0, 0, Int.le_refl _, Or.inr ⟨1, _, hR, hW.1⟩⟩
    · rw [if_neg (show ¬ wayT ((tkK T n).1 (k + 1)) = -1 from c)] at hR
      have hkN : k + 1 < N := lt_of_t hN hk.2 (show kT T n (k + 1) ≠ 0 by omega) (show kT T n (k + 1) ≠ 1 by omega)
      refine Tr_bnd (C_step hX b3 ⟨hk.1, hkN⟩) ?_
      rintro _ W ⟨w1, w2⟩
      have XW : CX T n N g W := CX_35 hg hX w2 (by rw [w1, upI_n _ _ (by decide)])
      have w0 : W 35 0 = 0 := by rw [w1, upI_n _ _ (by decide)]; exact b0
      have wn : W 35 1 = -1 := by rw [w1, upI_n _ _ (by decide)]; exact b1
      have w3 : W 35 3 = k + 1 + 1 := by rw [w1, upI_s]
      have w5 : W 35 5 = 0 := by rw [w1, upI_n _ _ (by decide)]; exact b5
      have exW : ∀ a, a ≠ 35 → W a = V a := fun a ha => by rw [w2 a ha, ex a ha]
      have fW : frG g V W := frG_tr fU (frG_35 hg w2 (fun j _ _ j3 _ => by rw [w1, upI_n _ _ j3]))
      refine Tr_if (fun d => ?_) (fun d => ?_)
      · rw [if_pos (show wayT ((tkK T n).1 (k + 1)) = 2 from d)] at hR
        unfold b_Reader_readMove_J46
        rw [XW.2.1, gd_t (OG hg)]
        refine Tr_bnd (C_setMove hg hm (by rw [exW g (by omega)]; exact h2)) ?_
        rintro _ Y ⟨y1, y2, y3, y4⟩
        rw [exW (g + 9) (by omega)] at y1
        rw [exW (g + 10) (by omega)] at y2
        rw [exW (g + 11) (by omega)] at y3
        have y35 : Y 35 = W 35 := y4 35 (by omega) (by omega) (by omega)
        have yo : ∀ a, a ≠ 35 → a ≠ g + 9 → a ≠ g + 10 → a ≠ g + 11 → Y a = V a := fun a a0 a1 a2 a3 => by rw [y4 a a1 a2 a3, exW a a0]
        refine Tr_ret ⟨⟨fun a a1 a2 => yo a a1 (by omega) (by omega) (by omega), by rw [yo (g + 3) (by omega) (by omega) (by omega) (by omega)]⟩, fun j _ => by rw [yo (g + 1) (by omega) (by omega) (by omega) (by omega)], yo g (by omega) (by omega) (by omega) (by omega), k + 1 + 1, y, 2, 0, by omega, Or.inl ⟨⟨hP, y1, by rw [y2, d], y3, yo⟩, ⟨by omega, by omega⟩, ?_, by rw [y35]; exact w0, by rw [y35]; exact wn, by rw [y35]; exact w3, by rw [y35]; exact w5, hR⟩⟩
        exact CX_c XW (by rw [y35]) (fun a a1 a2 => y4 a (by omega) (by omega) (by omega)) (by rw [y4 (g + 1) (by omega) (by omega) (by omega)]; exact XW.2.2.1)
      · rw [if_neg (show ¬ wayT ((tkK T n).1 (k + 1)) = 2 from d)] at hR
        refine Tr_bnd (T_num (P := P ∧ ∀ a, a ≠ 35 → W a = V a) hg hL (Or.inl ⟨⟨hP, exW⟩, ⟨by omega, by omega⟩, XW, w0, wn, w3, w5, hR⟩)) ?_
        rintro v X ⟨fX, cX⟩
        have xg : X g = V g := by rw [fX.1 g (by omega) (by omega) (by omega), exW g (by omega)]
        have f9 : ∀ o, 3 ≤ o → o ≤ 12 → X (g + o) = V (g + o) := fun o o1 o2 => by rw [fX.1 (g + o) (by omega) (by omega) (by omega), exW (g + o) (by omega)]
        unfold b_Reader_readMove_J46
        rw [XW.2.1, gd_t (OG hg)]
        refine Tr_bnd (C_setMove hg hm (by rw [xg]; exact h2)) ?_
        rintro _ Y ⟨y1, y2, y3, y4⟩
        rw [f9 9 (by decide) (by decide)] at y1
        rw [f9 10 (by decide) (by decide)] at y2
        rw [f9 11 (by decide) (by decide)] at y3
        have y35 : Y 35 = X 35 := y4 35 (by omega) (by omega) (by omega)
        have fVX := frG_tr fW fX
        have xX : 0 ≤ Y (g + 1) 2 ∧ Y (g + 1) 2 ≤ 1800 := by rw [y4 (g + 1) (by omega) (by omega) (by omega)]; exact (Ct_CX cX).2.2.1
        refine Tr_ret ⟨⟨fun a a1 a2 => by rw [y4 a (by omega) (by omega) (by omega), fVX.1 a a1 (by omega) (by omega)], by rw [y4 (g + 3) (by omega) (by omega) (by omega), fVX.1 (g + 3) (by omega) (by omega) (by omega)]⟩, fun j hj => by rw [y4 (g + 1) (by omega) (by omega) (by omega), fVX.2.2 j hj], by rw [y4 g (by omega) (by omega) (by omega), fVX.1 g (by omega) (by omega) (by omega)], k + 1 + 1 + 1, y, wayT (kT T n (k + 1)), v, by omega, ?_⟩
        rcases cX with ⟨⟨⟨hP', -⟩, ex'⟩, hk', hX', d0, d1, d3, d5, dR⟩ | ⟨kd, p, dR, dM⟩
        · refine Or.inl ⟨⟨hP', y1, y2, y3, fun a a0 a1 a2 a3 => by rw [y4 a a1 a2 a3, ex' a a0, exW a a0]⟩, hk', CX_c hX' (by rw [y35]) (fun a a1 a2 => y4 a (by omega) (by omega) (by omega)) xX, by rw [y35]; exact d0, by rw [y35]; exact d1, by rw [y35]; exact d3, by rw [y35]; exact d5, dR⟩
        · exact Or.inr ⟨kd, p, dR, FM_c dM y35 (fun a a1 a2 => y4 a (by omega) (by omega) (by omega)) xX⟩
  · have hw : wayT (kT T n N) = -1 := by
      have := wayT_r (kT T n N)
      omega
    refine Tr_bq (C_way hM.1 hM.2.2.2.2 ⟨hM.1.2.2.2.1, Int.le_refl N⟩) (Tr_t hw ?_)
    refine Tr_bnd (C_failM hg hM) ?_
    rintro _ W hW
    have fW := frG_tr fU hW.2
    exact Tr_ret ⟨fD_G hg fW, fW.2.2, fW.1 g (by omega) (by omega) (by omega), k, 0, 0, 0, Int.le_refl _, Or.inr ⟨kd, p, hR, hW.1⟩⟩
/-- the tests are closed -/
theorem C_close' {g m : Int} {V : ASt} (hg : isGm g) (hm : 0 ≤ m ∧ m < 12) (h3 : V (g + 1) 3 = m) : Tr (f_Tests_close S0 V (g + 1)) (fun _ U => U (g + 1) = upI (V (g + 1)) 3 (m + 1) ∧ U (g + 3) = upI (V (g + 3)) (m + 1) (V (g + 1) 2) ∧ ∀ a, a ≠ g + 1 → a ≠ g + 3 → U a = V a) := by
  unfold f_Tests_close
  rw [gd_t (OG1 hg), h3, w32_id (by omega) (by omega)]
  refine Tr_f (by omega) ?_
  refine Tr_set (fun V1 e1 n1 => ?_)
  rw [e1, upI_s, upI_n _ _ (show (2 : Int) ≠ 3 by decide), FG1_1 hg, AG3 hg, gd_in (by omega) (by omega)]
  refine Tr_set (fun V2 e2 n2 => Tr_ret ⟨by rw [n2 (g + 1) (by omega), e1], by rw [e2, n1 (g + 3) (by omega)], fun a a1 a2 => by rw [n2 a a2, n1 a a1]⟩)
/-- the head of the rule m -/
def RHd (g m kd ev pc wy st : Int) (V : ASt) : Prop := V (g + 8) m = kd ∧ V (g + 12) m = ev ∧ V (g + 9) m = pc ∧ V (g + 10) m = wy ∧ V (g + 11) m = st
theorem gmD_r {g kd ev pc wy st : Int} {w c : CDs} {s : GS} {V U : ASt} (h : gmD g s V) (hH : RHd g s.2.2.2.length kd ev pc wy st U) (hc : cdA g V U c) (h3 : U (g + 1) 3 = s.2.2.2.length + 1) (he : U (g + 3) = upI (V (g + 3)) (s.2.2.2.length + 1) (V (g + 1) 2 + c.length)) (hg0 : ∀ j, j ≠ 2 → U g j = V g j) (ho : ∀ o, 5 ≤ o → o ≤ 7 → U (g + o) = V (g + o)) (hr : ∀ o i, 8 ≤ o → o ≤ 12 → i ≠ (s.2.2.2.length : Int) → U (g + o) i = V (g + o) i) : gmD g (addR s (kd, ev, pc, wy, st, w, c)) U := by
  obtain ⟨g1, g2, g5, g6, g8, c1, c2, c3, c4, c5⟩ := h
  obtain ⟨a1, a2, a3⟩ := hc
  refine ⟨by rw [hg0 0 (by decide)]; exact g1, ?_, ?_, by rw [hg0 4 (by decide)]; exact g6, ?_, ?_, ?_, ?_, ?_, ?_⟩
  · show nmH (nsG s) g U
    unfold nmH at *
    rw [hg0 1 (by decide), ho 5 (by decide) (by decide)]
    exact g2
  · intro i hi
    rw [ho 6 (by decide) (by decide), ho 7 (by decide) (by decide)]
    exact g5 i hi
  · intro i hi
    have hi' : i < (s.2.2.2 ++ [(kd, ev, pc, wy, st, w, c)]).length := hi
    simp only [List.length_append, List.length_cons, List.length_nil] at hi'
    show U (g + 8) (i : Int) = ((s.2.2.2 ++ [(kd, ev, pc, wy, st, w, c)]).getD i dRU).1 ∧ U (g + 12) (i : Int) = ((s.2.2.2 ++ [(kd, ev, pc, wy, st, w, c)]).getD i dRU).2.1 ∧ U (g + 9) (i : Int) = ((s.2.2.2 ++ [(kd, ev, pc, wy, st, w, c)]).getD i dRU).2.2.1 ∧ U (g + 10) (i : Int) = ((s.2.2.2 ++ [(kd, ev, pc, wy, st, w, c)]).getD i dRU).2.2.2.1 ∧ U (g + 11) (i : Int) = ((s.2.2.2 ++ [(kd, ev, pc, wy, st, w, c)]).getD i dRU).2.2.2.2.1
    by_cases q : i < s.2.2.2.length
    · have hn : (i : Int) ≠ (s.2.2.2.length : Int) := by omega
      rw [getD_l q, hr 8 _ (by decide) (by decide) hn, hr 12 _ (by decide) (by decide) hn, hr 9 _ (by decide) (by decide) hn, hr 10 _ (by decide) (by decide) hn, hr 11 _ (by decide) (by decide) hn]
      exact g8 i q
    · have e : i = s.2.2.2.length := by omega
      subst e
      rw [getD_r]
      exact hH
  · show U (g + 1) 2 = ((cwC (s.2.2.2 ++ [(kd, ev, pc, wy, st, w, c)])).length : Nat)
    rw [cwC_a, a1, c1]
    simp only [List.length_append]
    omega
  · show U (g + 1) 3 = ((s.2.2.2 ++ [(kd, ev, pc, wy, st, w, c)]).length : Nat)
    rw [h3, List.length_append]; simp
  · rw [he, upI_n _ _ (by omega)]; exact c3
  · intro i hi
    have hi' : i < (s.2.2.2 ++ [(kd, ev, pc, wy, st, w, c)]).length := hi
    simp only [List.length_append, List.length_cons, List.length_nil] at hi'
    show U (g + 3) ((i : Int) + 1) = ((cwC ((s.2.2.2 ++ [(kd, ev, pc, wy, st, w, c)]).take (i + 1))).length : Nat)
    by_cases q : i < s.2.2.2.length
    · rw [he, upI_n _ _ (by omega), List.take_append_of_le_length (show i + 1 ≤ s.2.2.2.length by omega)]
      exact c4 i q
    · have e : i = s.2.2.2.length := by omega
      subst e
      rw [he, upI_s, List.take_of_length_le (by simp), cwC_a, c1]
      simp only [List.length_append]
      omega
  · intro i hi
    have hi' : i < (cwC (s.2.2.2 ++ [(kd, ev, pc, wy, st, w, c)])).length := hi
    show U (g + 2) (i : Int) = cmw ((cwC (s.2.2.2 ++ [(kd, ev, pc, wy, st, w, c)])).getD i (0, 0))
    rw [cwC_a] at hi' ⊢
    simp only [List.length_append] at hi'
    by_cases q : i < (cwC s.2.2.2).length
    · rw [a2 i (by omega), c5 i q, List.getD_eq_getElem?_getD, List.getD_eq_getElem?_getD, List.getElem?_append_left q]
    · have := a3 (i - (cwC s.2.2.2).length) (by omega)
      rw [c1, show ((cwC s.2.2.2).length : Int) + ((i - (cwC s.2.2.2).length : Nat) : Int) = (i : Int) by omega] at this
      rw [this, List.getD_eq_getElem?_getD, List.getD_eq_getElem?_getD, List.getElem?_append_right (by omega)]
theorem T_83 {T : Int → Int} {n N g k k0 kd ev pc wy st : Int} {s : GS} {R : PR} {V : ASt} (hg : isGm g) (hn : 0 ≤ n ∧ n ≤ 1800) (hL : lstK T n N) (hs : gsO s k0) (hk0 : k0 ≤ k) (hl : s.2.2.2.length < 12) (h3 : V (g + 1) 3 = s.2.2.2.length) (h2 : V g 2 = s.2.2.2.length + 1) (h : Ct T n N g (gmD g s V ∧ RHd g s.2.2.2.length kd ev pc wy st V) k R (ruE (tkK T n) s kd ev k pc wy st) V) :
    Tr (b_Reader_readRule_J83 S0 V 35) (fun _ U => fD g V U ∧ CRs T n N g R U) := by
  have hgr := gm_r hg
  have hN : lsT (tkK T n) N := hL.2.2.2
  have hNn := hL.2.1
  unfold b_Reader_readRule_J83
  have hF : ∀ z, ruE (tkK T n) s kd ev z pc wy st = tkw (tkK T n) 270 z (fun k3 => tsS (tkK T n) (nsG s) k3 (fun k4 w c => Sum.inr (k4, addR s (kd, ev, pc, wy, st, w, c)))) := fun z => rfl
  rw [hF] at h
  refine Tr_bnd (T_take hg hL (by decide) h) ?_
  rintro _ U ⟨fU, c1⟩
  have u3 : U (g + 1) 3 = s.2.2.2.length := by rw [fU.2.2 3 (by decide)]; exact h3
  have fin : ∀ (X : ASt) (kd' p : Int), frG g U X → FM T n N g kd' p X → R = Sum.inl (kd', p) → Tr (gd (isO S0 (X 35 4) 1) (gd (isO S0 (aF S0 (X 35 4) 5) 8) (bnd (f_Tests_close S0 X (aF S0 (X 35 4) 5)) (fun _ V9 => some (0, V9))))) (fun _ W => fD g V W ∧ CRs T n N g R W) := by
    intro X kd' p fX hM hR
    rw [hM.1.2.1, gd_t (OG hg), (O_g5 hg).1, gd_t (O_g5 hg).2]
    refine Tr_bnd (C_close' (m := (s.2.2.2.length : Int)) hg (by omega) (by rw [fX.2.2 3 (by decide)]; exact u3)) ?_
    rintro _ Y ⟨y1, y2, y3⟩
    refine Tr_ret ⟨fD_tr (fD_G hg (frG_tr fU fX)) ⟨fun a a1 a2 => y3 a (by omega) (by omega), by rw [y2, upI_n _ _ (by omega)]⟩, Or.inr ⟨kd', p, hR, FM_c hM (y3 35 (by omega) (by omega)) (fun a a1 a2 => y3 a (by omega) (by omega)) ?_⟩⟩
    rw [y1, upI_n _ _ (by decide)]; exact hM.1.2.2.1
  rcases c1 with ⟨⟨⟨hD, hH⟩, ex⟩, hk, hX, b0, b1, b3, b5, hR⟩ | ⟨kd', p, hR, hM⟩
  · have DU := gmD_35 hg hD ex
    have hlen := hs.2.2.2.2.2.2.2
    have u2 : U (g + 1) 2 = (cwC s.2.2.2).length := DU.2.2.2.2.2.1
    have h9 : (ps (tkK T n) (nsG s) 30000 0 (k + 1) 0).1 ≠ 9 := ps_fuel hN 30000 0 (k + 1) 0 hk.2 (by rw [show rkN 0 = 8 from rfl]; omega)
    have hpr : prC T n N g (nsG s) (k + 1) 0 U := ⟨hk, ⟨by decide, by decide⟩, hX, b0, b3, b5, by rw [u2]; omega, DU.2.1⟩
    refine Tr_bnd ((CL_all hg hn.1 hL 30000).1 (k + 1) 0 RF U hpr (by show 8 * (9 - 0) + (8 - ((0 : Nat) : Int)) ≤ ((100 : Nat) : Int); decide) h9) ?_
    rintro _ X ⟨fX, x1, x2⟩
    unfold tsS at hR
    by_cases z : (ps (tkK T n) (nsG s) 30000 0 (k + 1) 0).1 = 0
    · rw [if_pos z] at hR
      have hv := ps_adv (ns := nsG s) hN 30000 0 (k + 1) 0 hk.2 z
      obtain ⟨y1, y2, y3, y4, y5, y6⟩ := x1 z
      rw [y1.2.1, gd_t (OG hg), (O_g5 hg).1, gd_t (O_g5 hg).2]
      refine Tr_bnd (C_close' (m := (s.2.2.2.length : Int)) hg (by omega) (by rw [fX.2.2 3 (by decide)]; exact u3)) ?_
      rintro _ Y ⟨z1, z2, z3⟩
      have y35 : Y 35 = X 35 := z3 35 (by omega) (by omega)
      have yo : ∀ a, a ≠ 35 → a ≠ g + 1 → a ≠ g + 2 → a ≠ g + 3 → Y a = U a := fun a a1 a2 a3 a4 => by rw [z3 a a2 a4, fX.1 a a1 a2 a3]
      have hc : cdA g U Y (ps (tkK T n) (nsG s) 30000 0 (k + 1) 0).2.2.2 := by
        unfold cdA at *
        rw [z1, upI_n _ _ (by decide), z3 (g + 2) (by omega) (by omega)]
        exact y6
      have ye : Y (g + 3) = upI (U (g + 3)) ((s.2.2.2.length : Int) + 1) (U (g + 1) 2 + (ps (tkK T n) (nsG s) 30000 0 (k + 1) 0).2.2.2.length) := by rw [z2, y6.1, fX.1 (g + 3) (by omega) (by omega) (by omega)]
      refine Tr_ret ⟨fD_tr (fD_G hg (frG_tr fU fX)) ⟨fun a a1 a2 => z3 a (by omega) (by omega), by rw [z2, upI_n _ _ (by omega)]⟩, Or.inl ⟨_, _, hR, ⟨by omega, hv.2.1⟩, CX_c y1 (by rw [y35]) (fun a a1 a2 => z3 a (by omega) (by omega)) ?_, by rw [y35]; exact y2, by rw [y35, y3]; exact b1, by rw [y35]; exact y4, by rw [y35, y5]; exact b5, gmD_r DU ?_ hc (by rw [z1, upI_s]) ye (fun j _ => by rw [yo g (by omega) (by omega) (by omega) (by omega)]) (fun o o1 o2 => yo _ (by omega) (by omega) (by omega) (by omega)) (fun o i o1 o2 _ => by rw [yo _ (by omega) (by omega) (by omega) (by omega)]), ?_⟩⟩
      · rw [z1, upI_n _ _ (by decide)]; exact y1.2.2.1
      · unfold RHd at *
        rw [yo (g + 8) (by omega) (by omega) (by omega) (by omega), yo (g + 9) (by omega) (by omega) (by omega) (by omega), yo (g + 10) (by omega) (by omega) (by omega) (by omega), yo (g + 11) (by omega) (by omega) (by omega) (by omega), yo (g + 12) (by omega) (by omega) (by omega) (by omega), ex (g + 8) (by omega), ex (g + 9) (by omega), ex (g + 10) (by omega), ex (g + 11) (by omega), ex (g + 12) (by omega)]
        exact hH
      · rw [yo g (by omega) (by omega) (by omega) (by omega), ex g (by omega), h2]
        show (s.2.2.2.length : Int) + 1 = ((s.2.2.2 ++ [_]).length : Nat)
        rw [List.length_append]; simp
    · rw [if_neg z] at hR
      exact fin X _ _ fX (x2 z) hR
  · refine Tr_bnd (F_any (u := RF) (idx := 0) hg hN hM (by decide) (by decide)) ?_
    rintro _ X hX
    exact fin X kd' p hX.2 hX.1 hR
