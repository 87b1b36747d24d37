/-! the class's game -/
def dG (G : GM) (t : Int) (V : ASt) : Prop :=
  V t 0 = qF G ∧ V t 1 = qP G ∧ V t 2 = qR G ∧ V t 4 = qU G ∧
  (∀ k, 0 ≤ k → k < qP G → V (t + 6) k = qS G k ∧ V (t + 7) k = qO G k) ∧
  (∀ r, 0 ≤ r → r < qR G → V (t + 8) r = qK G r ∧ V (t + 9) r = qI G r ∧ V (t + 10) r = qW G r ∧ V (t + 11) r = qN G r ∧ V (t + 12) r = qE G r)
/-- its positions are numbered -/
def dN (G : GM) (t : Int) (V : ASt) : Prop :=
  V t 3 = (if qF G = 0 then 0 else qPos G) ∧ (qF G ≠ 0 → V (t + 13) 0 = (if qP G = 2 then 2 * (qF G + 1) else 2) ∧ V (t + 13) 1 = 2 ∧
    ∀ p, 0 ≤ p → p < qPos G → V (t + 14) (2 * p) = spt G p 0 ∧ V (t + 14) (2 * p + 1) = spt G p 1)
/-- what is known of the tests is so -/
def dX (G : GM) (t : Int) (V : ASt) : Prop := ∀ p k g, 0 ≤ p → p < qPos G → 0 ≤ k → k < 2 → 0 ≤ g → g < 10 → ∃ n : Nat, V (t + 15) ((2 * p + k) * 10 + g) = n ∧ n < 16777216 ∧ ∀ r : Nat, (r : Int) < qR G → (n.testBit r = true → n.testBit (12 + r) = true) ∧ (n.testBit (12 + r) = true → (n.testBit r = true ↔ hold G r p k g = 1))
/-- the class's tests, by what running them gives -/
def dT (G : GM) (t : Int) (V : ASt) : Prop := ∀ r, 0 ≤ r → r < qR G → ∀ W : ASt, W (t + 1) = V (t + 1) → W (t + 2) = V (t + 2) → W (t + 3) = V (t + 3) → ∀ spot goal who a b : Int, 0 ≤ spot → spot ≤ 9 → 0 ≤ goal → goal ≤ 9 → 0 ≤ who → who ≤ 1 → 0 ≤ a → a ≤ 9 → 0 ≤ b → b ≤ 9 →
  Tr (f_Tests_evaluate S0 W (t + 1) r spot goal who a b) (fun x U => x = qT G r spot goal who a b ∧ ∀ c, c ≠ t + 4 → U c = W c)
theorem dG_fr {G : GM} {t : Int} {V W : ASt} (h : W t = V t) (h2 : ∀ o, 6 ≤ o → o ≤ 12 → W (t + o) = V (t + o)) (g : dG G t V) : dG G t W := by
  unfold dG at *
  rw [h, h2 6 (by decide) (by decide), h2 7 (by decide) (by decide), h2 8 (by decide) (by decide), h2 9 (by decide) (by decide), h2 10 (by decide) (by decide), h2 11 (by decide) (by decide), h2 12 (by decide) (by decide)]
  exact g
theorem dN_fr {G : GM} {t : Int} {V W : ASt} (h : W t = V t) (h2 : ∀ o, 13 ≤ o → o ≤ 14 → W (t + o) = V (t + o)) (g : dN G t V) : dN G t W := by
  unfold dN at *
  rw [h, h2 13 (by decide) (by decide), h2 14 (by decide) (by decide)]
  exact g
theorem dX_fr {G : GM} {t : Int} {V W : ASt} (h : W (t + 15) = V (t + 15)) (g : dX G t V) : dX G t W := by
  unfold dX at *
  rw [h]
  exact g
theorem dT_fr {G : GM} {t : Int} {V W : ASt} (h2 : ∀ o, 1 ≤ o → o ≤ 3 → W (t + o) = V (t + o)) (g : dT G t V) : dT G t W := by
  unfold dT at *
  rw [h2 1 (by decide) (by decide), h2 2 (by decide) (by decide), h2 3 (by decide) (by decide)]
  exact g
theorem qP_F {G : GM} (hG : GOK G) (h : 0 < qP G) : qF G ≠ 0 := fun e => by have := (hG.2.2.2.2.1 e).1; omega
theorem qR_F {G : GM} (hG : GOK G) (h : 0 < qR G) : qF G ≠ 0 := fun e => by have := (hG.2.2.2.2.1 e).2.1; omega
theorem G_isPosition {t : Int} (ht : isGm t) (V : ASt) (p : Int) : f_Game_isPosition S0 V t p = some (if 0 ≤ p ∧ p < V t 3 then 1 else 0, V) := by
  unfold f_Game_isPosition
  rw [gd_t (OG ht)]
  by_cases h1 : p < 0
  · rw [if_pos h1, if_neg (by omega)]
  · rw [if_neg h1]
    by_cases h2 : V t 3 ≤ p
    · rw [if_pos h2, if_neg (by omega)]
    · rw [if_neg h2, if_pos (by omega)]
theorem G_isRule {t : Int} (ht : isGm t) (V : ASt) (p : Int) : f_Game_isRule S0 V t p = some (if 0 ≤ p ∧ p < V t 2 then 1 else 0, V) := by
  unfold f_Game_isRule
  rw [gd_t (OG ht)]
  by_cases h1 : p < 0
  · rw [if_pos h1, if_neg (by omega)]
  · rw [if_neg h1]
    by_cases h2 : V t 2 ≤ p
    · rw [if_pos h2, if_neg (by omega)]
    · rw [if_neg h2, if_pos (by omega)]
theorem G_kindOf {G : GM} {t : Int} {V : ASt} (hG : GOK G) (ht : isGm t) (h : dG G t V) {r : Int} (h0 : 0 ≤ r) (hr : r < qR G) : f_Game_kindOf S0 V t r = some (qK G r, V) := by
  have := hG.2.2.1
  have a := h.2.2.2.2.2 r h0 hr
  have e := h.2.2.1
  unfold f_Game_kindOf
  rw [gd_t (OG ht), G_isRule ht, bnd_e, e, if_pos (show 0 ≤ r ∧ r < qR G from ⟨h0, hr⟩), if_neg (by decide), FG_9 ht, AG8 ht, gd_in (by omega) (by omega), a.1]
theorem G_pieceOf {G : GM} {t : Int} {V : ASt} (hG : GOK G) (ht : isGm t) (h : dG G t V) {r : Int} (h0 : 0 ≤ r) (hr : r < qR G) : f_Game_pieceOf S0 V t r = some (qI G r, V) := by
  have := hG.2.2.1
  have a := h.2.2.2.2.2 r h0 hr
  have e := h.2.2.1
  unfold f_Game_pieceOf
  rw [gd_t (OG ht), G_isRule ht, bnd_e, e, if_pos (show 0 ≤ r ∧ r < qR G from ⟨h0, hr⟩), if_neg (by decide), FG_10 ht, AG9 ht, gd_in (by omega) (by omega), a.2.1]
theorem G_wayOf {G : GM} {t : Int} {V : ASt} (hG : GOK G) (ht : isGm t) (h : dG G t V) {r : Int} (h0 : 0 ≤ r) (hr : r < qR G) : f_Game_wayOf S0 V t r = some (qW G r, V) := by
  have := hG.2.2.1
  have a := h.2.2.2.2.2 r h0 hr
  have e := h.2.2.1
  unfold f_Game_wayOf
  rw [gd_t (OG ht), G_isRule ht, bnd_e, e, if_pos (show 0 ≤ r ∧ r < qR G from ⟨h0, hr⟩), if_neg (by decide), FG_11 ht, AG10 ht, gd_in (by omega) (by omega), a.2.2.1]
theorem G_stepOf {G : GM} {t : Int} {V : ASt} (hG : GOK G) (ht : isGm t) (h : dG G t V) {r : Int} (h0 : 0 ≤ r) (hr : r < qR G) : f_Game_stepOf S0 V t r = some (qN G r, V) := by
  have := hG.2.2.1
  have a := h.2.2.2.2.2 r h0 hr
  have e := h.2.2.1
  unfold f_Game_stepOf
  rw [gd_t (OG ht), G_isRule ht, bnd_e, e, if_pos (show 0 ≤ r ∧ r < qR G from ⟨h0, hr⟩), if_neg (by decide), FG_12 ht, AG11 ht, gd_in (by omega) (by omega), a.2.2.2.1]
theorem G_isEver {G : GM} {t : Int} {V : ASt} (hG : GOK G) (ht : isGm t) (h : dG G t V) {r : Int} (h0 : 0 ≤ r) (hr : r < qR G) : f_Game_isEver S0 V t r = some (qE G r, V) := by
  have := hG.2.2.1
  have a := h.2.2.2.2.2 r h0 hr
  have e := h.2.2.1
  have b := (hG.2.2.2.2.2.2.1 r h0 hr).1
  unfold f_Game_isEver
  rw [gd_t (OG ht), G_isRule ht, bnd_e, e, if_pos (show 0 ≤ r ∧ r < qR G from ⟨h0, hr⟩), if_neg (by decide), FG_13 ht, AG12 ht, gd_in (by omega) (by omega), a.2.2.2.2]
  rcases b with b | b <;> rw [b] <;> rfl
theorem G_beginningOf {G : GM} {t : Int} {V : ASt} (hG : GOK G) (ht : isGm t) (h : dG G t V) (hN : dN G t V) {d : Int} (hd : d = 0 ∨ d = 1) : f_Game_beginningOf S0 V t d = some (beg G d, V) := by
  obtain ⟨m, hm⟩ := FU_s
  obtain ⟨h1, h2, h3, h4, h5, h6⟩ := h
  obtain ⟨n1, n2⟩ := hN
  have g1 := hG.1
  have g2 := hG.2.1
  have g6 := hG.2.2.2.2.2.1
  unfold beg
  rcases P_cases g2 with e | e | e
  · simp (disch := omega) only [f_Game_beginningOf, hm, b_Game_beginningOf_L4, gd_tt, OG ht, OG1 ht, FG_5 ht, FG_6 ht, FG_7 ht, FG_8 ht, FG_9 ht, FG_10 ht, FG_11 ht, FG_12 ht, FG_13 ht, FG_14 ht, FG_15 ht, FG_16 ht, FG1_0 ht, FG1_1 ht, FG1_4 ht, AG2 ht, AG3 ht, AG4 ht, AG5 ht, AG6 ht, AG7 ht, AG8 ht, AG9 ht, AG10 ht, AG11 ht, AG12 ht, AG13 ht, AG14 ht, AG15 ht, gd_in, w32_id, if_pos, if_neg, wV_e, bnd_e, reduceIte, Int.reduceEq, Int.reduceLE, Int.reduceLT, Int.reduceAdd, Int.reduceSub, Int.reduceMul, Int.reduceNeg, h2, e]
    rw [show d % 2 = d by omega]
  · have q := g6 0 (by omega) (by omega)
    have a := h5 0 (by omega) (by omega)
    have w := n2 (qP_F hG (by omega))
    rw [if_neg (by omega)] at w
    simp (disch := omega) only [f_Game_beginningOf, hm, b_Game_beginningOf_L4, gd_tt, OG ht, OG1 ht, FG_5 ht, FG_6 ht, FG_7 ht, FG_8 ht, FG_9 ht, FG_10 ht, FG_11 ht, FG_12 ht, FG_13 ht, FG_14 ht, FG_15 ht, FG_16 ht, FG1_0 ht, FG1_1 ht, FG1_4 ht, AG2 ht, AG3 ht, AG4 ht, AG5 ht, AG6 ht, AG7 ht, AG8 ht, AG9 ht, AG10 ht, AG11 ht, AG12 ht, AG13 ht, AG14 ht, AG15 ht, gd_in, w32_id, if_pos, if_neg, wV_e, bnd_e, reduceIte, Int.reduceEq, Int.reduceLE, Int.reduceLT, Int.reduceAdd, Int.reduceSub, Int.reduceMul, Int.reduceNeg, h2, e, a.1, w.1]
    refine congrArg (fun x => some (x, V)) ?_
    omega
  · have q := g6 0 (by omega) (by omega)
    have a := h5 0 (by omega) (by omega)
    have q1 := g6 1 (by omega) (by omega)
    have a1 := h5 1 (by omega) (by omega)
    have w := n2 (qP_F hG (by omega))
    rw [if_pos e] at w
    have m1 := mul_b g1 (x := qS G 0) (by omega)
    have mm : qS G 0 * (2 * (qF G + 1)) = 2 * ((qF G + 1) * qS G 0) := by rw [Int.mul_comm, Int.mul_assoc]
    simp (disch := omega) only [f_Game_beginningOf, hm, b_Game_beginningOf_L4, gd_tt, OG ht, OG1 ht, FG_5 ht, FG_6 ht, FG_7 ht, FG_8 ht, FG_9 ht, FG_10 ht, FG_11 ht, FG_12 ht, FG_13 ht, FG_14 ht, FG_15 ht, FG_16 ht, FG1_0 ht, FG1_1 ht, FG1_4 ht, AG2 ht, AG3 ht, AG4 ht, AG5 ht, AG6 ht, AG7 ht, AG8 ht, AG9 ht, AG10 ht, AG11 ht, AG12 ht, AG13 ht, AG14 ht, AG15 ht, gd_in, w32_id, if_pos, if_neg, wV_e, bnd_e, reduceIte, Int.reduceEq, Int.reduceLE, Int.reduceLT, Int.reduceAdd, Int.reduceSub, Int.reduceMul, Int.reduceNeg, h2, e, a.1, a1.1, w.1, w.2.1, mm]
    refine congrArg (fun x => some (x, V)) ?_
    omega
theorem G_spotToLeave {G : GM} {t : Int} {V : ASt} (hG : GOK G) (ht : isGm t) (h : dG G t V) (hN : dN G t V) {p k : Int} (hF : qF G ≠ 0) (hp : 0 ≤ p ∧ p < qPos G) (hk : 0 ≤ k ∧ k < 2) :
    f_Game_spotToLeave S0 V t p k = some (if k < qP G ∧ (qO G k = 2 ∨ qO G k = p % 2) ∧ spt G p k < qF G then spt G p k else -1, V) := by
  obtain ⟨h1, h2, h3, h4, h5, h6⟩ := h
  obtain ⟨n1, n2⟩ := hN
  have hq := qPos_le hG
  have sp := spt_r hG p k hp.1
  rw [if_neg hF] at n1
  have hs : V (t + 14) (2 * p + k) = spt G p k := by
    have := (n2 hF).2.2 p hp.1 hp.2
    have hk2 : k = 0 ∨ k = 1 := by omega
    rcases hk2 with e | e <;> subst e
    · rw [Int.add_zero]; exact this.1
    · exact this.2
  unfold f_Game_spotToLeave b_Game_spotToLeave_J60
  rw [gd_t (OG ht), G_isPosition ht, bnd_e, n1, if_pos hp, if_neg (by decide), if_neg (by omega), h2]
  by_cases c : k < qP G
  · rw [if_pos c, w32_id (x := p * 2) (by omega) (by omega), w32_id (x := p * 2 + k) (by omega) (by omega), FG_15 ht, AG14 ht, gd_in (by omega) (by omega), FG_8 ht, AG7 ht, gd_in (by omega) (by omega), show p * 2 + k = 2 * p + k by omega, hs, (h5 k hk.1 c).2, and32_1, h1]
    by_cases c2 : qO G k = 2
    · rw [if_pos c2, if_neg (by decide)]
      by_cases c4 : qF G ≤ spt G p k
      · rw [if_pos c4, if_neg (by omega)]
      · rw [if_neg c4, if_pos ⟨c, Or.inl c2, by omega⟩]
    · rw [if_neg c2]
      by_cases c3 : qO G k = p % 2
      · rw [if_pos c3, if_neg (by decide)]
        by_cases c4 : qF G ≤ spt G p k
        · rw [if_pos c4, if_neg (by omega)]
        · rw [if_neg c4, if_pos ⟨c, Or.inr c3, by omega⟩]
      · rw [if_neg c3, if_pos rfl, if_neg (by omega)]
  · rw [if_neg c, if_neg (fun z => c z.1)]
theorem G_fieldOrNone {G : GM} {t : Int} {V : ASt} (ht : isGm t) (h : dG G t V) (g : Int) : f_Game_fieldOrNone S0 V t g = some (fOr G g, V) := by
  unfold f_Game_fieldOrNone fOr
  rw [gd_t (OG ht), h.1]
  by_cases h1 : g < 0
  · rw [if_pos h1, if_neg (by omega)]
  · rw [if_neg h1]
    by_cases h2 : qF G ≤ g
    · rw [if_pos h2, if_neg (by omega)]
    · rw [if_neg h2, if_pos (by omega)]
theorem xor1_t : ∀ n : Nat, n < 256 → xor32 n 1 = if n % 2 = 0 then (n : Int) + 1 else (n : Int) - 1 := by decide +kernel
theorem xor1_e {x : Int} (h : 0 ≤ x) (h2 : x < 256) : xor32 x 1 = 2 * (x / 2) + 1 - x % 2 := by
  have := xor1_t x.toNat (by omega)
  rw [cast_t h] at this
  rw [this]
  by_cases c : x.toNat % 2 = 0
  · rw [if_pos c]; omega
  · rw [if_neg c]; omega
theorem G_positionBehind {G : GM} {t : Int} {V : ASt} (hG : GOK G) (ht : isGm t) (h : dG G t V) (hN : dN G t V) {p k g : Int} (hp : 0 ≤ p ∧ p < qPos G) (hk : 0 ≤ k ∧ k < qP G) (hg : 0 ≤ g ∧ g ≤ qF G) :
    f_Game_positionBehind S0 V t p k g = some (beh G p k g, V) := by
  have hF := qP_F hG (by omega)
  obtain ⟨h1, h2, h3, h4, h5, h6⟩ := h
  obtain ⟨n1, n2⟩ := hN
  have hq := qPos_le hG
  have sp := spt_r hG p k hp.1
  have g2 := hG.2.1
  have g1 := hG.1
  rw [if_neg hF] at n1
  have hs : V (t + 14) (2 * p + k) = spt G p k := by
    have := (n2 hF).2.2 p hp.1 hp.2
    have hk2 : k = 0 ∨ k = 1 := by omega
    rcases hk2 with e | e <;> subst e
    · rw [Int.add_zero]; exact this.1
    · exact this.2
  have hw := n2 hF
  have hbr := beh_r hG (p := p) (k := k) hp.1 hg
  have key : ∃ w, V (t + 13) k = w ∧ (-200 ≤ (g - spt G p k) * w ∧ (g - spt G p k) * w ≤ 200) ∧ 0 ≤ p + (g - spt G p k) * w ∧ p + (g - spt G p k) * w < 200 ∧ 2 * ((p + (g - spt G p k) * w) / 2) + 1 - (p + (g - spt G p k) * w) % 2 = beh G p k g := by
    rcases P_cases g2 with e | e | e
    · omega
    · have hk0 : k = 0 := by omega
      subst hk0
      refine ⟨2, by rw [hw.1, if_neg (by omega)], ?_⟩
      have e1 : spt G p 0 = p / 2 := by
        unfold spt
        rw [e]
        simp only [Int.reduceLE, Int.reduceAdd, Int.reduceLT, reduceIte]
        refine Int.emod_eq_of_lt (by omega) ?_
        have := hp.2
        unfold qPos at this
        rw [e] at this
        simp only [Int.reduceEq, reduceIte] at this
        omega
      have e2 : beh G p 0 g = 2 * g + 1 - p % 2 := by unfold beh; rw [e]; rfl
      rw [e1, e2]
      omega
    · have hk2 : k = 0 ∨ k = 1 := by omega
      have hpq := hp.2
      unfold qPos at hpq
      rw [e] at hpq
      simp only [Int.reduceEq, reduceIte] at hpq
      have e0 : spt G p 0 = p / 2 / (qF G + 1) % (qF G + 1) := by unfold spt; rw [e]; rfl
      have e1 : spt G p 1 = p / 2 % (qF G + 1) := by unfold spt; rw [e]; rfl
      have b0 : beh G p 0 g = 2 * ((qF G + 1) * g + spt G p 1) + 1 - p % 2 := by unfold beh; rw [e]; rfl
      have b1 : beh G p 1 g = 2 * ((qF G + 1) * spt G p 0 + g) + 1 - p % 2 := by unfold beh; rw [e]; rfl
      rcases hk2 with k0 | k0 <;> subst k0
      · refine ⟨2 * (qF G + 1), by rw [hw.1, if_pos e], ?_⟩
        rw [b0, e0, e1]
        clear b0 b1 e0 e1 hs hw n1 n2 h1 sp hbr
        generalize qF G = f at *
        have hf : f = 0 ∨ f = 1 ∨ f = 2 ∨ f = 3 ∨ f = 4 ∨ f = 5 ∨ f = 6 ∨ f = 7 ∨ f = 8 ∨ f = 9 := by omega
        rcases hf with e | e | e | e | e | e | e | e | e | e <;> subst e <;> omega
      · refine ⟨2, hw.2.1, ?_⟩
        rw [b1, e0, e1]
        clear b0 b1 e0 e1 hs hw n1 n2 h1 sp hbr
        generalize qF G = f at *
        have hf : f = 0 ∨ f = 1 ∨ f = 2 ∨ f = 3 ∨ f = 4 ∨ f = 5 ∨ f = 6 ∨ f = 7 ∨ f = 8 ∨ f = 9 := by omega
        rcases hf with e | e | e | e | e | e | e | e | e | e <;> subst e <;> omega
  obtain ⟨w, w1, w2, w3, w4, w5⟩ := key
  unfold f_Game_positionBehind
  rw [gd_t (OG ht), G_isPosition ht, bnd_e, n1, if_pos hp, if_neg (by decide), if_neg (by omega), h2, if_pos hk.2, w32_id (x := p * 2) (by omega) (by omega), w32_id (x := p * 2 + k) (by omega) (by omega), FG_15 ht, AG14 ht, gd_in (by omega) (by omega), FG_14 ht, AG13 ht, gd_in (by omega) (by omega), show p * 2 + k = 2 * p + k by omega, hs, w1,
    w32_id (x := g - spt G p k) (by omega) (by omega), w32_id (x := (g - spt G p k) * w) (by omega) (by omega), w32_id (x := p + (g - spt G p k) * w) (by omega) (by omega), xor1_e w3 (by omega), w5]
theorem G_winner {G : GM} {t : Int} {V : ASt} (ht : isGm t) (h : dG G t V) {who : Int} (hw : 0 ≤ who ∧ who ≤ 1) : f_Game_winnerWhenStuck S0 V t who = some (if qU G = 1 then 2 else if qU G = 2 then who else 1 - who, V) := by
  unfold f_Game_winnerWhenStuck
  rw [gd_t (OG ht), h.2.2.2.1, w32_id (x := 1 - who) (by omega) (by omega)]
  by_cases c : qU G = 1
  · rw [if_pos c, if_pos c]
  · rw [if_neg c, if_neg c]
    by_cases c2 : qU G = 2
    · rw [if_pos c2, if_pos c2]
    · rw [if_neg c2, if_neg c2]
theorem and_bit (n i : Nat) : (n &&& 2 ^ i = 0) ↔ n.testBit i = false := by
  constructor
  · intro h
    have := congrArg (fun x => Nat.testBit x i) h
    simp only [Nat.testBit_and, Nat.testBit_two_pow, decide_true, Bool.and_true, Nat.zero_testBit] at this
    exact this
  · intro h
    refine Nat.eq_of_testBit_eq fun j => ?_
    rw [Nat.testBit_and, Nat.testBit_two_pow, Nat.zero_testBit]
    by_cases e : i = j
    · subst e; rw [h, Bool.false_and]
    · rw [decide_eq_false e, Bool.and_false]
theorem hold_r {G : GM} (hG : GOK G) (r p k g : Int) : hold G r p k g = 0 ∨ hold G r p k g = 1 := hG.2.2.2.2.2.2.2.1 _ _ _ _ _ _
theorem holds_J {G : GM} {t : Int} {V : ASt} (hG : GOK G) (ht : isGm t) (h : dG G t V) {r p k g slot bit f s0 spot : Int} (h0 : 0 ≤ r) (hr : r < qR G) (hk : k = 0 ∨ k = 1) :
    b_Game_holds_J121 S0 V t r p k g slot bit f s0 spot = b_Game_holds_J175 S0 V t r p g slot bit (if 2 ≤ qK G r ∧ k = 0 then g else f) spot (if 2 ≤ qK G r ∧ k = 1 then g else s0) := by
  have := hG.2.2.1
  unfold b_Game_holds_J121 b_Game_holds_J138 b_Game_holds_J156
  rw [FG_9 ht, AG8 ht, gd_in (by omega) (by omega), (h.2.2.2.2.2 r h0 hr).1]
  by_cases c : qK G r < 2
  · rw [if_pos c, if_pos rfl, if_pos rfl, if_neg (by omega), if_neg (by omega)]
  · rw [if_neg c, if_neg (by decide)]
    rcases hk with e | e <;> subst e
    · rw [if_pos rfl, if_neg (by decide), if_neg (by decide), if_pos ⟨by omega, rfl⟩, if_neg (by omega)]
    · rw [if_neg (by decide), if_neg (by decide), if_pos rfl, if_neg (by omega), if_pos ⟨by omega, rfl⟩]
theorem shl1 {r : Nat} (h : r < 24) : shl32 1 r = ((2 ^ r : Nat) : Int) := by
  have h2 : 2 ^ r ≤ 2 ^ 23 := Nat.pow_le_pow_right (by decide) (by omega)
  have := shl_n (n := 1) (s := r) (by omega) (by rw [Nat.one_mul]; omega)
  rw [Nat.one_mul] at this
  exact this
theorem shl12 {r : Nat} (h : r < 12) : shl32 ((2 ^ r : Nat) : Int) 12 = ((2 ^ (12 + r) : Nat) : Int) := by
  have h2 : 2 ^ r ≤ 2 ^ 11 := Nat.pow_le_pow_right (by decide) (by omega)
  have := shl_n (n := 2 ^ r) (s := 12) (by decide) (by omega)
  rw [← Nat.pow_add, Nat.add_comm r 12] at this
  exact this
theorem G_holds {G : GM} {t : Int} {V : ASt} (hG : GOK G) (ht : isGm t) (h : dG G t V) (hN : dN G t V) (hX : dX G t V) (hT : dT G t V) {r p k g : Int} (h0 : 0 ≤ r) (hr : r < qR G) (hp : 0 ≤ p ∧ p < qPos G) (hk : 0 ≤ k ∧ k < qP G) (hg : 0 ≤ g ∧ g ≤ 9) :
    Tr (f_Game_holds S0 V t r p k g) (fun x U => x = hold G r p k g ∧ dX G t U ∧ ∀ c, c ≠ t + 4 → c ≠ t + 15 → U c = V c) := by
  have hF := qP_F hG (by omega)
  have hq := qPos_le hG
  have hR := hG.2.2.1
  have hP := hG.2.1
  have n1 := hN.1
  rw [if_neg hF] at n1
  have hsp := (hN.2 hF).2.2 p hp.1 hp.2
  obtain ⟨n, e1, e2, e3⟩ := hX p k g hp.1 hp.2 hk.1 (by omega) hg.1 (by omega)
  have hrn : ((r.toNat : Nat) : Int) = r := cast_t h0
  have hr12 : r.toNat < 12 := by omega
  have e3r := e3 r.toNat (by omega)
  rw [hrn] at e3r
  have hp2 : 2 ^ r.toNat ≤ 2 ^ 11 := Nat.pow_le_pow_right (by decide) (by omega)
  have hp23 : 2 ^ (12 + r.toNat) ≤ 2 ^ 23 := Nat.pow_le_pow_right (by decide) (by omega)
  have hs1 : shl32 1 r = ((2 ^ r.toNat : Nat) : Int) := by rw [← shl1 (by omega), hrn]
  have hgF := hG.1
  have s0r := spt_r hG p 0 hp.1
  have s1r := spt_r hG p 1 hp.1
  have skr := spt_r hG p k hp.1
  unfold f_Game_holds
  rw [gd_t (OG ht), G_isRule ht, bnd_e, h.2.2.1, if_pos (show 0 ≤ r ∧ r < qR G from ⟨h0, hr⟩), if_neg (by decide), G_isPosition ht, bnd_e, n1, if_pos hp, if_neg (by decide)]
  unfold b_Game_holds_J21
  rw [if_neg (by decide), if_neg (by omega), h.2.1, if_neg (by omega), if_neg (by omega), if_pos (by omega), w32_id (x := p * 2) (by omega) (by omega), w32_id (x := p * 2 + k) (by omega) (by omega), w32_id (x := (p * 2 + k) * 10) (by omega) (by omega), w32_id (x := (p * 2 + k) * 10 + g) (by omega) (by omega), w32_id (x := p * 2 + 1) (by omega) (by omega), FG_16 ht, AG15 ht, gd_in (by omega) (by omega), FG_15 ht, AG14 ht, AG14 ht, gd_in (by omega) (by omega), gd_in (by omega) (by omega),
    show p * 2 = 2 * p by omega, e1, hs1, shl12 hr12, and_n (by omega) (by omega), hsp.1, hsp.2]
  have hend : ∀ (U : ASt) (n' : Nat), U (t + 15) ((2 * p + k) * 10 + g) = n' → n' < 16777216 → (n'.testBit r.toNat = true ↔ hold G r p k g = 1) → dX G t U → (∀ c, c ≠ t + 4 → c ≠ t + 15 → U c = V c) →
      Tr (b_Game_holds_J225 S0 U t ((2 * p + k) * 10 + g) ((2 ^ r.toNat : Nat) : Int)) (fun x U => x = hold G r p k g ∧ dX G t U ∧ ∀ c, c ≠ t + 4 → c ≠ t + 15 → U c = V c) := by
    intro U n' u1 u2 u3 u4 u5
    unfold b_Game_holds_J225
    rw [FG_16 ht, AG15 ht, gd_in (by omega) (by omega), u1, and_n (by omega) (by omega)]
    have hb := and_bit n' r.toNat
    have hz := hold_r hG r p k g
    refine Tr_if (fun c => ?_) (fun c => ?_)
    · have := hb.mp (by omega)
      rw [this] at u3
      refine Tr_ret ⟨?_, u4, u5⟩
      rcases hz with z | z
      · exact z.symm
      · exact absurd (u3.mpr z) (by decide)
    · have : n'.testBit r.toNat = true := by
        cases hh : n'.testBit r.toNat with
        | true => rfl
        | false => exact absurd (by rw [hb.mpr hh]; rfl) c
      exact Tr_ret ⟨(u3.mp this).symm, u4, u5⟩
  have hb12 := and_bit n (12 + r.toNat)
  refine Tr_if (fun c => ?_) (fun c => ?_)
  · have hun : n.testBit (12 + r.toNat) = false := hb12.mp (by omega)
    have hun2 : n.testBit r.toNat = false := by
      cases hh : n.testBit r.toNat with
      | false => rfl
      | true => rw [e3r.1 hh] at hun; cases hun
    have hmain : Tr (b_Game_holds_J121 S0 V t r p k g ((2 * p + k) * 10 + g) ((2 ^ r.toNat : Nat) : Int) (spt G p 0) (spt G p 1) (spt G p k)) (fun x U => x = hold G r p k g ∧ dX G t U ∧ ∀ c, c ≠ t + 4 → c ≠ t + 15 → U c = V c) := by
      rw [holds_J hG ht h h0 hr (by omega)]
      unfold b_Game_holds_J175
      rw [FG_5 ht, gd_t (OG1 ht), and32_1]
      have ha : 0 ≤ (if 2 ≤ qK G r ∧ k = 0 then g else spt G p 0) ∧ (if 2 ≤ qK G r ∧ k = 0 then g else spt G p 0) ≤ 9 := by
        by_cases z : 2 ≤ qK G r ∧ k = 0
        · rw [if_pos z]; omega
        · rw [if_neg z]; omega
      have hb' : 0 ≤ (if 2 ≤ qK G r ∧ k = 1 then g else spt G p 1) ∧ (if 2 ≤ qK G r ∧ k = 1 then g else spt G p 1) ≤ 9 := by
        by_cases z : 2 ≤ qK G r ∧ k = 1
        · rw [if_pos z]; omega
        · rw [if_neg z]; omega
      refine Tr_bnd (hT r h0 hr V rfl rfl rfl (spt G p k) g (p % 2) _ _ (by omega) (by omega) hg.1 hg.2 (by omega) (by omega) ha.1 ha.2 hb'.1 hb'.2) ?_
      rintro x U ⟨hx, hU⟩
      have hx' : x = hold G r p k g := hx
      have u15 : U (t + 15) = V (t + 15) := hU (t + 15) (by omega)
      rw [FG_16 ht, AG15 ht, gd_in (by omega) (by omega), u15, e1, shl12 hr12]
      have hset : ∀ (z : Nat), (z = 0 ∧ x = 0) ∨ (z = 2 ^ r.toNat ∧ x = 1) → Tr (b_Game_holds_J222 S0 U t ((2 * p + k) * 10 + g) ((2 ^ r.toNat : Nat) : Int) (t + 15) ((2 * p + k) * 10 + g) n ((2 ^ (12 + r.toNat) : Nat) : Int) (z : Int)) (fun x U => x = hold G r p k g ∧ dX G t U ∧ ∀ c, c ≠ t + 4 → c ≠ t + 15 → U c = V c) := by
        intro z hz
        have hz24 : z < 2 ^ 24 := by rcases hz with ⟨a, -⟩ | ⟨a, -⟩ <;> omega
        unfold b_Game_holds_J222
        have ho1 : 2 ^ (12 + r.toNat) ||| z < 2 ^ 24 := Nat.or_lt_two_pow (by omega) hz24
        have ho2 : n ||| (2 ^ (12 + r.toNat) ||| z) < 2 ^ 24 := Nat.or_lt_two_pow (by omega) ho1
        rw [AG15 ht, gd_in (by omega) (by omega), or_n (by omega) (by omega), or_n (by omega) (by omega)]
        refine Tr_set (fun V1 v1 v2 => ?_)
        have htb : ∀ j, (n ||| (2 ^ (12 + r.toNat) ||| z)).testBit j = (n.testBit j || (decide (12 + r.toNat = j) || z.testBit j)) := fun j => by
          rw [Nat.testBit_or, Nat.testBit_or, Nat.testBit_two_pow]
        have hzb : ∀ j, j ≠ r.toNat → z.testBit j = false := by
          intro j hj
          rcases hz with ⟨a, -⟩ | ⟨a, -⟩
          · rw [a]; exact Nat.zero_testBit j
          · rw [a, Nat.testBit_two_pow, decide_eq_false (by omega)]
        have hzr : z.testBit r.toNat = true ↔ hold G r p k g = 1 := by
          rw [← hx']
          rcases hz with ⟨a, b⟩ | ⟨a, b⟩
          · rw [a, Nat.zero_testBit, b]; decide
          · rw [a, Nat.testBit_two_pow, b]; simp
        have hnew : (n ||| (2 ^ (12 + r.toNat) ||| z)).testBit r.toNat = true ↔ hold G r p k g = 1 := by
          rw [htb, hun2, decide_eq_false (by omega), Bool.false_or, Bool.false_or]; exact hzr
        refine hend V1 (n ||| (2 ^ (12 + r.toNat) ||| z)) (by rw [v1, upI_s]) ho2 hnew ?_ (fun c c1 c2 => by rw [v2 c c2, hU c c1])
        intro p' k' g' q1 q2 q3 q4 q5 q6
        by_cases hsl : (2 * p' + k') * 10 + g' = (2 * p + k) * 10 + g
        · have hp' : p' = p := by omega
          have hk' : k' = k := by omega
          have hg' : g' = g := by omega
          subst hp' hk' hg'
          refine ⟨_, by rw [v1, upI_s], ho2, fun j hj => ?_⟩
          by_cases hjr : j = r.toNat
          · subst hjr
            rw [hrn]
            refine ⟨fun _ => ?_, fun _ => hnew⟩
            rw [htb, decide_eq_true rfl, Bool.true_or, Bool.or_true]
          · rw [htb, htb, decide_eq_false (by omega), hzb j hjr, decide_eq_false (by omega), hzb (12 + j) (by omega), Bool.or_false, Bool.or_false, Bool.or_false]
            exact e3 j hj
        · obtain ⟨n2, a1, a2, a3⟩ := hX p' k' g' q1 q2 q3 q4 q5 q6
          exact ⟨n2, by rw [v1, upI_n _ _ hsl, u15, a1], a2, a3⟩
      have hz := hold_r hG r p k g
      refine Tr_if (fun c1 => ?_) (fun c1 => ?_)
      · exact hset 0 (Or.inl ⟨rfl, c1⟩)
      · exact hset (2 ^ r.toNat) (Or.inr ⟨rfl, by omega⟩)
    refine Tr_if (fun ck => ?_) (fun ck => ?_)
    · subst ck; exact hmain
    · have : k = 1 := by omega
      subst this; exact hmain
  · have hkn : n.testBit (12 + r.toNat) = true := by
      cases hh : n.testBit (12 + r.toNat) with
      | true => rfl
      | false => exact absurd (by rw [hb12.mpr hh]; rfl) c
    exact hend V n e1 e2 (e3r.2 hkn) hX (fun _ _ _ => rfl)
