/-! the class's game that has been told -/
theorem dG_q {s : GS} {g : Int} {V : ASt} (h : gmD g s V) (h2 : V g 2 = s.2.2.2.length) : dG (gmQ s) g V := by
  obtain ⟨g1, g2, g5, g6, g8, -⟩ := h
  refine ⟨g1, ?_, h2, g6, fun k k0 k1 => ?_, fun r r0 r1 => ?_⟩
  · rw [gq_P, g2.1, nsG_l]
  · rw [gq_P] at k1
    have := g5 k.toNat (by omega)
    rw [show ((k.toNat : Nat) : Int) = k by omega] at this
    exact this
  · rw [gq_R] at r1
    have := g8 r.toNat (by omega)
    rw [show ((r.toNat : Nat) : Int) = r by omega] at this
    exact ⟨this.1, this.2.2.1, this.2.2.2.1, this.2.2.2.2, this.2.1⟩
theorem dL_q {s : GS} {g : Int} {V : ASt} (h : gmD g s V) : dL (gmQ s) g V := by
  intro k k0 k1
  rw [gq_P] at k1
  have := h.2.1.2.2 k.toNat (by rw [nsG_l]; omega)
  rw [show ((k.toNat : Nat) : Int) = k by omega] at this
  have e : (nsG s).getD k.toNat [] = (pcQ s k).1 := getD_m (by omega)
  rw [e] at this
  exact ⟨(pcQ s k).1, this.2, fun j => rfl, this.1⟩
theorem dT_q {s : GS} {g k : Int} {V : ASt} (hg : isGm g) (hs : gsO s k) (hk : k ≤ 1800) (h : gmD g s V) : dT (gmQ s) g V := by
  intro r r0 r1 W w1 w2 w3 spot goal who a b s0 s1 l0 l1 o0 o1 a0 a1 b0 b1
  rw [gq_R] at r1
  have hgr := gm_r hg
  have hl := nsG_l s
  have hl2 := hs.2.1
  have hl12 := hs.2.2.2.2.1
  obtain ⟨-, -, -, -, -, c1, c2, c3, c4, c5⟩ := h
  have hcw : ((s.2.2.2.flatMap (fun r => r.2.2.2.2.2.2)).length : Int) ≤ k := hs.2.2.2.2.2.2.2
  have hat : ((s.2.2.2.take (r.toNat + 1)).flatMap (fun r => r.2.2.2.2.2.2)).length = ((s.2.2.2.take r.toNat).flatMap (fun r => r.2.2.2.2.2.2)).length + (rlQ s r).2.2.2.2.2.2.length := (fm_at (fun r => r.2.2.2.2.2.2) s.2.2.2 r.toNat (by omega)).2
  have hle := fm_le (fun r => r.2.2.2.2.2.2) s.2.2.2 r.toNat (by omega)
  have hga : ∀ i : Nat, i < (rlQ s r).2.2.2.2.2.2.length → ((s.2.2.2.take r.toNat).flatMap (fun r => r.2.2.2.2.2.2)).length + i < (s.2.2.2.flatMap (fun r => r.2.2.2.2.2.2)).length ∧ (s.2.2.2.flatMap (fun r => r.2.2.2.2.2.2)).getD (((s.2.2.2.take r.toNat).flatMap (fun r => r.2.2.2.2.2.2)).length + i) (0, 0) = (rlQ s r).2.2.2.2.2.2.getD i (0, 0) := fun i hi => fm_g (fun r => r.2.2.2.2.2.2) s.2.2.2 r.toNat i (by omega) hi
  have e1 : V (g + 3) (r + 1) = ((s.2.2.2.take (r.toNat + 1)).flatMap (fun r => r.2.2.2.2.2.2)).length := by
    have := c4 r.toNat (by omega)
    rw [show ((r.toNat : Nat) : Int) = r by omega] at this
    exact this
  have e0 : V (g + 3) r = ((s.2.2.2.take r.toNat).flatMap (fun r => r.2.2.2.2.2.2)).length := by
    by_cases z : r = 0
    · subst z
      rw [c3]; rfl
    · have := c4 (r.toNat - 1) (by omega)
      rw [show (((r.toNat - 1 : Nat) : Int) + 1) = r by omega, show r.toNat - 1 + 1 = r.toNat by omega] at this
      exact this
  have hcd : ∀ i : Nat, i < (s.2.2.2.flatMap (fun r => r.2.2.2.2.2.2)).length → V (g + 2) i = cmw ((s.2.2.2.flatMap (fun r => r.2.2.2.2.2.2)).getD i (0, 0)) := c5
  rw [hat] at e1 hle
  generalize hfr : ((s.2.2.2.take r.toNat).flatMap (fun r => r.2.2.2.2.2.2)).length = fr at *
  generalize hbig : s.2.2.2.flatMap (fun r => r.2.2.2.2.2.2) = big at *
  have hq : ∀ q : Int, 1 ≤ q → q ≤ 3 + (s.2.1.length : Int) → evF spot goal who a b q = evF spot goal who a b q := fun _ _ _ => rfl
  have hbg : ∀ q : Int, 1 ≤ q → q ≤ 3 + (s.2.1.length : Int) → bigI (evF spot goal who a b q) := by
    intro q q0 q1
    unfold evF
    by_cases z1 : q = 1
    · rw [if_pos z1]; exact ⟨by omega, by omega⟩
    rw [if_neg z1]
    by_cases z2 : q = 2
    · rw [if_pos z2]; exact ⟨by omega, by omega⟩
    rw [if_neg z2]
    by_cases z3 : q = 3
    · rw [if_pos z3]; exact ⟨by omega, by omega⟩
    rw [if_neg z3]
    by_cases z4 : q = 4
    · rw [if_pos z4]; exact ⟨by omega, by omega⟩
    · rw [if_neg z4]; exact ⟨by omega, by omega⟩
  obtain ⟨cb, crun⟩ := gq_run hs r0 r1 hq hbg
  obtain ⟨-, -, -, -, v, -, -, a7⟩ := rlQ_m hs r0 r1
  have hwl : (rlQ s r).2.2.2.2.2.2.length ≤ 1800 := by omega
  unfold f_Tests_evaluate
  rw [gd_t (OG1 hg), w1, c2, FG1_1 hg, AG3 hg, gd_in (by omega) (by omega), w3, e0]
  refine Tr_f (by omega) (Tr_t (by omega) ?_)
  have key := C_run (g := g) (r := r) (E := ((fr + (rlQ s r).2.2.2.2.2.2.length : Nat) : Int)) (ns := nsG s) (ev := evF spot goal who a b) (x2 := spot) (x3 := goal) (x4 := who) (x5 := a) (x6 := b) (Q := fun x U => x = qT (gmQ s) r spot goal who a b ∧ ∀ c, c ≠ g + 4 → U c = W c) (V := W) hg (by omega) (by omega) (by rw [hl]; exact hl2) (fun q q0 q1 => hbg q q0 (by rw [hl] at q1; exact q1)) ⟨rfl, rfl, rfl, rfl, rfl⟩ (by rw [w3]; exact e1) (rlQ s r).2.2.2.2.2.2 [] [qT (gmQ s) r spot goal who a b] (fr : Int) W (99999 - (rlQ s r).2.2.2.2.2.2.length + 1) (crun 64 (by decide)).2 a7 (fun x hx => by cases hx) (fun a _ => rfl) trivial (fun i hi => ?_) (by omega) (by omega) (by simp) (fun W' fW' sW' => ?_)
  · rw [show 99999 - (rlQ s r).2.2.2.2.2.2.length + 1 + (rlQ s r).2.2.2.2.2.2.length = FU by rw [FU_v]; omega] at key
    exact key
  · obtain ⟨j1, j2⟩ := hga i hi
    have := hcd (fr + i) j1
    rw [j2] at this
    rw [w2, show (fr : Int) + (i : Int) = ((fr + i : Nat) : Int) by omega]
    exact this
  · rw [b_Tests_evaluate_L25, FG1_1 hg, w32_id (x := r + 1) (by omega) (by omega), AG3 hg, gd_in (by omega) (by omega), fW' (g + 3) (by omega), w3, e1]
    refine Tr_t (by omega) (Tr_f (by show ¬ ((1 : Nat) : Int) ≤ 0; decide) ?_)
    rw [FG1_4 hg, AG4 hg, gd_in (by omega) (by omega), show W' (g + 4) 0 = qT (gmQ s) r spot goal who a b from sW'.1]
    rcases cb with z | z
    · rw [z]; exact Tr_t rfl (Tr_ret ⟨rfl, fW'⟩)
    · rw [z]; exact Tr_f (by decide) (Tr_ret ⟨rfl, fW'⟩)
-- ---- positions are numbered
theorem np_ok {G : GM} (hG : GOK G) (hF : qF G ≠ 0) {fc sc a b : Int} (hfc : fc = if qP G ≤ 0 then 1 else qF G + 1) (hsc : sc = if qP G ≤ 1 then 1 else qF G + 1) (ha : 0 ≤ a ∧ a < fc) (hb : 0 ≤ b ∧ b < sc) : 0 ≤ a * sc + b ∧ 2 * (a * sc + b) + 1 < 200 ∧ ∀ w : Int, (w = 0 ∨ w = 1) → spt G (2 * (a * sc + b) + w) 0 = a ∧ spt G (2 * (a * sc + b) + w) 1 = b := by
  obtain ⟨h1, h2, -⟩ := hG
  unfold spt
  generalize qF G = f at *
  rcases P_cases h2 with e | e | e <;> rw [e] at hfc hsc ⊢
  · rw [if_pos (by decide)] at hfc hsc
    subst hfc hsc
    obtain rfl : a = 0 := by omega
    obtain rfl : b = 0 := by omega
    exact ⟨by decide, by decide, fun w hw => ⟨if_pos (by decide), if_pos (by decide)⟩⟩
  · rw [if_neg (by decide)] at hfc
    rw [if_pos (by decide)] at hsc
    subst hfc hsc
    obtain rfl : b = 0 := by omega
    refine ⟨by omega, by omega, fun w hw => ⟨?_, if_pos (by decide)⟩⟩
    rw [if_neg (by decide), if_neg (by decide), show (2 * (a * 1 + 0) + w) / 2 = a by omega, Int.emod_eq_of_lt (by omega) (by omega)]
  · rw [if_neg (by decide)] at hfc hsc
    subst hfc hsc
    have hf : f = 1 ∨ f = 2 ∨ f = 3 ∨ f = 4 ∨ f = 5 ∨ f = 6 ∨ f = 7 ∨ f = 8 ∨ f = 9 := by omega
    refine ⟨?_, ?_, fun w hw => ⟨?_, ?_⟩⟩
    · rcases hf with e | e | e | e | e | e | e | e | e <;> subst e <;> omega
    · rcases hf with e | e | e | e | e | e | e | e | e <;> subst e <;> omega
    · rw [if_neg (by decide), if_pos (by decide)]
      rcases hf with e | e | e | e | e | e | e | e | e <;> subst e <;> omega
    · rw [if_neg (by decide), if_neg (by decide)]
      rcases hf with e | e | e | e | e | e | e | e | e <;> subst e <;> omega
def npI (G : GM) (t : Int) (V0 : ASt) (c : Int) (W : ASt) : Prop := W t 3 = c ∧ (∀ k, k ≠ 3 → W t k = V0 t k) ∧ (∀ a, a ≠ t → a ≠ t + 14 → W a = V0 a) ∧ ∀ p, 0 ≤ p → p < c → W (t + 14) (2 * p) = spt G p 0 ∧ W (t + 14) (2 * p + 1) = spt G p 1
theorem np_one {G : GM} {t c a b : Int} {V0 W : ASt} {K : ASt → Option (Int × ASt)} {Q : Int → ASt → Prop} (ht : isGm t) (h : npI G t V0 c W) (hc : 0 ≤ c ∧ c < 200) (e0 : spt G c 0 = a) (e1 : spt G c 1 = b) (hK : ∀ U, npI G t V0 (c + 1) U → Tr (K U) Q) : Tr (if 200 ≤ W t 3 then K W else (gd (isA S0 (aF S0 t 15) 0 (w32 ((W t 3) * 2))) (wV (aset W (aF S0 t 15) (w32 ((W t 3) * 2)) a) (fun V2 => gd (isA S0 (aF S0 t 15) 0 (w32 ((w32 ((V2 t 3) * 2)) + 1))) (wV (aset V2 (aF S0 t 15) (w32 ((w32 ((V2 t 3) * 2)) + 1)) b) (fun V4 => wV (aset V4 t 3 (w32 ((V4 t 3) + 1))) (fun V5 => K V5))))))) Q := by
  obtain ⟨h3, h4, h5, h6⟩ := h
  rw [h3, FG_15 ht, w32_id (x := c * 2) (by omega) (by omega), AG14 ht, gd_in (by omega) (by omega)]
  refine Tr_f (by omega) ?_
  refine Tr_set (fun V1 a1 n1 => ?_)
  rw [n1 t (by omega), h3, w32_id (x := c * 2) (by omega) (by omega), w32_id (x := c * 2 + 1) (by omega) (by omega), AG14 ht, gd_in (by omega) (by omega)]
  refine Tr_set (fun V2 a2 n2 => ?_)
  rw [n2 t (by omega), n1 t (by omega), h3, w32_id (x := c + 1) (by omega) (by omega)]
  refine Tr_set (fun U a3 n3 => hK U ⟨?_, fun k hk => ?_, fun x x1 x2 => ?_, fun p p0 p1 => ?_⟩)
  · rw [a3, upI_s]
  · rw [a3, upI_n _ _ hk, n2 t (by omega), n1 t (by omega)]; exact h4 k hk
  · rw [n3 x x1, n2 x x2, n1 x x2]; exact h5 x x1 x2
  · have e : U (t + 14) = upI (upI (W (t + 14)) (c * 2) a) (c * 2 + 1) b := by rw [n3 (t + 14) (by omega), a2, a1]
    rw [e]
    by_cases z : p = c
    · subst z
      rw [show 2 * p = p * 2 by omega, upI_n _ _ (by omega), upI_s, upI_s, e0, e1]
      exact ⟨rfl, rfl⟩
    · rw [upI_n _ _ (by omega), upI_n _ _ (by omega), upI_n _ _ (by omega), upI_n _ _ (by omega)]
      exact h6 p p0 (by omega)
theorem np_85 {G : GM} (hG : GOK G) (hF : qF G ≠ 0) {t fc sc a b : Int} {V0 W : ASt} {K68 K76 : ASt → Int → Option (Int × ASt)} {Q : Int → ASt → Prop} (ht : isGm t) (hfc : fc = if qP G ≤ 0 then 1 else qF G + 1) (hsc : sc = if qP G ≤ 1 then 1 else qF G + 1) (ha : 0 ≤ a ∧ a < fc) (hb : 0 ≤ b ∧ b < sc) (h : npI G t V0 (2 * (a * sc + b)) W) (hK : ∀ U, npI G t V0 (2 * (a * sc + b) + 1 + 1) U → Tr (K76 U (b + 1)) Q) : Tr (b_Game_numberPositions_L85 S0 K68 K76 t fc sc a b FU W 0) Q := by
  obtain ⟨o1, o2, o3⟩ := np_ok hG hF hfc hsc ha hb
  have hb10 : b + 1 ≤ 10 := by
    have := hG.1
    by_cases z : qP G ≤ 1
    · rw [if_pos z] at hsc; omega
    · rw [if_neg z] at hsc; omega
  obtain ⟨m, hm⟩ : ∃ m, FU = m + 1 + 1 + 1 := ⟨99997, rfl⟩
  have s0 := o3 0 (Or.inl rfl)
  have s1 := o3 1 (Or.inr rfl)
  rw [Int.add_zero] at s0
  generalize a * sc + b = c at *
  have hw : w32 (b + 1) = b + 1 := w32_id (by omega) (by omega)
  rw [hm, b_Game_numberPositions_L85]
  refine Tr_f (by decide) ?_
  rw [if_neg (show ¬ 200 ≤ W t 3 by rw [h.1]; omega)]
  have k1 := np_one (K := fun V5 => b_Game_numberPositions_L85 S0 K68 K76 t fc sc a b (m + 1 + 1) V5 (w32 (0 + 1))) (Q := Q) ht h ⟨by omega, by omega⟩ s0.1 s0.2 (fun U hU => ?_)
  · rw [if_neg (show ¬ 200 ≤ W t 3 by rw [h.1]; omega)] at k1
    exact k1
  · show Tr (b_Game_numberPositions_L85 S0 K68 K76 t fc sc a b (m + 1 + 1) U (w32 (0 + 1))) Q
    rw [show w32 (0 + 1) = 1 from w32_id (by decide) (by decide), b_Game_numberPositions_L85]
    refine Tr_f (by decide) ?_
    rw [if_neg (show ¬ 200 ≤ U t 3 by rw [hU.1]; omega)]
    have k2 := np_one (K := fun V5 => b_Game_numberPositions_L85 S0 K68 K76 t fc sc a b (m + 1) V5 (w32 (1 + 1))) (Q := Q) ht hU ⟨by omega, by omega⟩ s1.1 s1.2 (fun X hX => ?_)
    · rw [if_neg (show ¬ 200 ≤ U t 3 by rw [hU.1]; omega)] at k2
      exact k2
    · show Tr (b_Game_numberPositions_L85 S0 K68 K76 t fc sc a b (m + 1) X (w32 (1 + 1))) Q
      rw [show w32 (1 + 1) = 2 from w32_id (by decide) (by decide), b_Game_numberPositions_L85, hw]
      exact Tr_t (by decide) (hK X hX)
theorem np_76 {G : GM} (hG : GOK G) (hF : qF G ≠ 0) {t fc sc a : Int} {V0 : ASt} {K68 : ASt → Int → Option (Int × ASt)} {Q : Int → ASt → Prop} (ht : isGm t) (hfc : fc = if qP G ≤ 0 then 1 else qF G + 1) (hsc : sc = if qP G ≤ 1 then 1 else qF G + 1) (ha : 0 ≤ a ∧ a < fc) (ha10 : a + 1 ≤ 10) (hK : ∀ U, npI G t V0 (2 * (a * sc + sc)) U → Tr (K68 U (a + 1)) Q) : ∀ (f : Nat) (b : Int) (W : ASt), 0 ≤ b → b ≤ sc → sc - b < f → npI G t V0 (2 * (a * sc + b)) W → Tr (b_Game_numberPositions_L76 S0 K68 t fc sc a f W b) Q := by
  intro f
  induction f with
  | zero => intro b W b0 b1 hf; omega
  | succ f ih =>
    intro b W b0 b1 hf h
    rw [b_Game_numberPositions_L76]
    refine Tr_if (fun c => ?_) (fun c => ?_)
    · have e : b = sc := by omega
      subst e
      rw [w32_id (by omega) (by omega)]
      exact hK W h
    · refine np_85 hG hF ht hfc hsc ha ⟨b0, by omega⟩ h (fun U hU => ih (b + 1) U (by omega) (by omega) (by omega) ?_)
      rw [show 2 * (a * sc + (b + 1)) = 2 * (a * sc + b) + 1 + 1 by omega]
      exact hU
theorem np_68 {G : GM} (hG : GOK G) (hF : qF G ≠ 0) {t fc sc : Int} {V0 : ASt} {Q : Int → ASt → Prop} (ht : isGm t) (hfc : fc = if qP G ≤ 0 then 1 else qF G + 1) (hsc : sc = if qP G ≤ 1 then 1 else qF G + 1) (hK : ∀ U, npI G t V0 (2 * (fc * sc)) U → Q 0 U) : ∀ (f : Nat) (a : Int) (W : ASt), 0 ≤ a → a ≤ fc → fc - a < f → npI G t V0 (2 * (a * sc)) W → Tr (b_Game_numberPositions_L68 S0 t fc sc f W a) Q := by
  have h9 := hG.1
  have hfc10 : fc ≤ 10 := by
    by_cases z : qP G ≤ 0
    · rw [if_pos z] at hfc; omega
    · rw [if_neg z] at hfc; omega
  have hsc10 : 1 ≤ sc ∧ sc ≤ 10 := by
    by_cases z : qP G ≤ 1
    · rw [if_pos z] at hsc; omega
    · rw [if_neg z] at hsc; omega
  intro f
  induction f with
  | zero => intro a W a0 a1 hf; omega
  | succ f ih =>
    intro a W a0 a1 hf h
    rw [b_Game_numberPositions_L68]
    refine Tr_if (fun c => ?_) (fun c => ?_)
    · have e : a = fc := by omega
      subst e
      exact Tr_ret (hK W h)
    · refine np_76 hG hF ht hfc hsc ⟨a0, by omega⟩ (by omega) (fun U hU => ih (a + 1) U (by omega) (by omega) (by omega) ?_) FU 0 W (Int.le_refl _) (by omega) (by rw [FU_v]; omega) (by rw [Int.add_zero]; exact h)
      rw [show (a + 1) * sc = a * sc + sc by rw [Int.add_mul, Int.one_mul]]
      exact hU
theorem N_num {G : GM} {t : Int} {V : ASt} (hG : GOK G) (hF : qF G ≠ 0) (ht : isGm t) (h : dG G t V) : Tr (f_Game_numberPositions S0 V t) (fun _ U => dN G t U ∧ dX G t U ∧ (∀ k, k ≠ 3 → U t k = V t k) ∧ ∀ a, a ≠ t → a ≠ t + 13 → a ≠ t + 14 → a ≠ t + 15 → U a = V a) := by
  have h9 := hG.1
  have hP := hG.2.1
  have htr := gm_r ht
  unfold f_Game_numberPositions
  rw [gd_t (OG ht), FG_16 ht]
  refine Tr_bq (fill_ok (WG15 ht) (NG15 ht) (by decide) (by decide)) ?_
  generalize hW : arow V (t + 15) (fun j => if 0 ≤ j ∧ j < 4000 then 0 else V (t + 15) j) = W
  have w15 : ∀ j, 0 ≤ j → j < 4000 → W (t + 15) j = 0 := fun j j0 j1 => by rw [← hW, arow_s]; exact if_pos ⟨j0, j1⟩
  have wo : ∀ a, a ≠ t + 15 → W a = V a := fun a ha => by rw [← hW, arow_n V _ ha]
  have wt : W t = V t := wo t (by omega)
  have j44 : ∀ fc sc : Int, fc = (if qP G ≤ 0 then 1 else qF G + 1) → sc = (if qP G ≤ 1 then 1 else qF G + 1) → Tr (b_Game_numberPositions_J44 S0 W t fc sc) (fun _ U => dN G t U ∧ dX G t U ∧ (∀ k, k ≠ 3 → U t k = V t k) ∧ ∀ a, a ≠ t → a ≠ t + 13 → a ≠ t + 14 → a ≠ t + 15 → U a = V a) := by
    intro fc sc hfc hsc
    have hsc10 : 1 ≤ sc ∧ sc ≤ 10 := by
      by_cases z : qP G ≤ 1
      · rw [if_pos z] at hsc; omega
      · rw [if_neg z] at hsc; omega
    have hfc10 : 1 ≤ fc ∧ fc ≤ 10 := by
      by_cases z : qP G ≤ 0
      · rw [if_pos z] at hfc; omega
      · rw [if_neg z] at hfc; omega
    unfold b_Game_numberPositions_J44
    rw [FG_14 ht, AG13 ht, gd_in (by decide) (by decide), w32_id (x := 2 * sc) (by omega) (by omega)]
    refine Tr_set (fun V1 e1 n1 => ?_)
    rw [AG13 ht, gd_in (by decide) (by decide)]
    refine Tr_set (fun V2 e2 n2 => ?_)
    refine Tr_set (fun V3 e3 n3 => ?_)
    refine np_68 (V0 := V3) hG hF ht hfc hsc (fun U hU => ?_) FU 0 V3 (Int.le_refl _) (by omega) (by rw [FU_v]; omega) ⟨by rw [e3, upI_s, Int.zero_mul]; rfl, fun k _ => rfl, fun a _ _ => rfl, fun p p0 p1 => by rw [Int.zero_mul] at p1; omega⟩
    obtain ⟨u1, u2, u3, u4⟩ := hU
    have hq : 2 * (fc * sc) = qPos G := by
      unfold qPos
      rcases P_cases hP with e | e | e <;> rw [e] at hfc hsc ⊢
      · rw [if_pos (by decide)] at hfc hsc ⊢
        rw [hfc, hsc]; rfl
      · rw [if_neg (by decide)] at hfc
        rw [if_pos (by decide)] at hsc
        rw [if_neg (by decide), if_pos rfl, hfc, hsc, Int.mul_one]
      · rw [if_neg (by decide)] at hfc hsc
        rw [if_neg (by decide), if_neg (by decide), hfc, hsc]
    rw [hq] at u1 u4
    have u13 : U (t + 13) = upI (upI (W (t + 13)) 0 (2 * sc)) 1 2 := by rw [u3 (t + 13) (by omega) (by omega), n3 (t + 13) (by omega), e2, e1]
    have u15 : U (t + 15) = W (t + 15) := by rw [u3 (t + 15) (by omega) (by omega), n3 (t + 15) (by omega), n2 (t + 15) (by omega), n1 (t + 15) (by omega)]
    refine ⟨⟨by rw [u1, if_neg hF], fun _ => ⟨?_, ?_, u4⟩⟩, fun p k g p0 p1 k0 k1 g0 g1 => ?_, fun k hk => ?_, fun a a1 a2 a3 a4 => ?_⟩
    · rw [u13, upI_n _ _ (by decide), upI_s, hsc]
      by_cases z : qP G ≤ 1
      · rw [if_pos z, if_neg (by omega)]; rfl
      · rw [if_neg z, if_pos (by omega)]
    · rw [u13, upI_s]
    · have hp := (qPos_le hG).2
      refine ⟨0, ?_, by decide, fun r _ => ⟨fun z => ?_, fun z => ?_⟩⟩
      · rw [u15, w15 _ (by omega) (by omega)]; rfl
      · rw [Nat.zero_testBit] at z; cases z
      · rw [Nat.zero_testBit] at z; cases z
    · rw [u2 k hk, e3, upI_n _ _ hk, n2 t (by omega), n1 t (by omega), wt]
    · rw [u3 a a1 a3, n3 a a1, n2 a a2, n1 a a2, wo a a4]
  have wP : W t 1 = qP G := by rw [wt]; exact h.2.1
  have wF : W t 0 = qF G := by rw [wt]; exact h.1
  rw [wP, wF, w32_id (by omega) (by omega)]
  have j25 : ∀ fc : Int, fc = (if qP G ≤ 0 then 1 else qF G + 1) → Tr (b_Game_numberPositions_J25 S0 W t fc) (fun _ U => dN G t U ∧ dX G t U ∧ (∀ k, k ≠ 3 → U t k = V t k) ∧ ∀ a, a ≠ t → a ≠ t + 13 → a ≠ t + 14 → a ≠ t + 15 → U a = V a) := by
    intro fc hfc
    unfold b_Game_numberPositions_J25
    rw [wP, wF, w32_id (by omega) (by omega)]
    exact Tr_if (fun z => j44 fc 1 hfc (by rw [if_pos z])) (fun z => j44 fc _ hfc (by rw [if_neg z]))
  exact Tr_if (fun z => j25 1 (by rw [if_pos z])) (fun z => j25 _ (by rw [if_neg z]))
