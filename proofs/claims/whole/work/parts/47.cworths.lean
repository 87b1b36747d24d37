/-! the class's worths by slates, kept -/
def scS (sb : SL) (c : Int) : SL := if c = -1 then sb else app sb c
def okC (G : GM) (sb : SL) (c : Int) : Prop := c = -1 ∨ chg G sb c = 1
def sl2 (c : Int) : Int := if 0 ≤ c ∧ c < 72 then 2 * c else 144
def vR (x : Int) : Prop := -1 ≤ x ∧ x ≤ 1
/-- the worths at w speak of sb -/
def dW (G : GM) (sb : SL) (t w : Int) (V : ASt) : Prop :=
  V w 2 = 1 ∧ V w 1 = t ∧ SOK G sb ∧ SNM G sb ∧ dS G sb (w + 1) V ∧ (∀ c, okC G sb c → V (w + 5) (sl2 c) ≠ 9 → V (w + 5) (sl2 c) = vW G (scS sb c) (beg G 0) ∧ V (w + 5) (sl2 c + 1) = vW G (scS sb c) (beg G 1) ∧ vR (vW G (scS sb c) (beg G 0)) ∧ vR (vW G (scS sb c) (beg G 1)))
theorem okC_r {G : GM} {sb : SL} (hG : GOK G) {c : Int} (h : okC G sb c) : c = -1 ∨ (0 ≤ c ∧ c < 72 ∧ c < 6 * qR G) := by
  rcases h with h | h
  · exact Or.inl h
  · have := chg_r h
    have := hG.2.2.1
    exact Or.inr (by omega)
theorem sl2_r {c : Int} (h : c = -1 ∨ (0 ≤ c ∧ c < 72)) : 0 ≤ sl2 c ∧ sl2 c ≤ 144 ∧ sl2 c % 2 = 0 := by
  unfold sl2
  rcases h with h | h
  · rw [if_neg (by omega)]; omega
  · rw [if_pos h]; omega
theorem sl2_i {c c' : Int} (h : c = -1 ∨ (0 ≤ c ∧ c < 72)) (h' : c' = -1 ∨ (0 ≤ c' ∧ c' < 72)) (e : sl2 c = sl2 c') : c = c' := by
  unfold sl2 at e
  rcases h with h | h <;> rcases h' with h' | h'
  · omega
  · rw [if_neg (by omega), if_pos h'] at e; omega
  · rw [if_pos h, if_neg (by omega)] at e; omega
  · rw [if_pos h, if_pos h'] at e; omega
theorem scS_ok {G : GM} {sb : SL} (hG : GOK G) (hs : SOK G sb) {c : Int} (h : okC G sb c) : SOK G (scS sb c) := by
  unfold scS
  rcases h with h | h
  · rw [if_pos h]; exact hs
  · have := chg_r h
    rw [if_neg (by omega)]; exact app_ok hG hs h
theorem W_slotOf {c j : Int} (V : ASt) (hc : c = -1 ∨ (0 ≤ c ∧ c < 72)) (hj : j = 0 ∨ j = 1) : f_Worths_slotOf S0 V c j = some (sl2 c + j, V) := by
  unfold f_Worths_slotOf sl2
  rw [and32_1]
  rcases hc with h | h
  · rw [if_pos (by omega), if_neg (by omega), w32_id (x := 2 * 72) (by decide) (by decide), w32_id (by omega) (by omega)]
    refine congrArg (fun x => some (x, V)) ?_
    omega
  · rw [if_neg (by omega), if_neg (by omega), if_pos h, w32_id (x := 2 * c) (by omega) (by omega), w32_id (by omega) (by omega)]
    refine congrArg (fun x => some (x, V)) ?_
    omega
/-- U is V but for what reckoning sets -/
def frR (w t : Int) (V U : ASt) : Prop := ∀ a, a ≠ w + 3 → a ≠ w + 4 → a ≠ w + 5 → (a < 73 ∨ 91 < a) → a ≠ t + 4 → a ≠ t + 15 → U a = V a
theorem frR_rfl (w t : Int) (V : ASt) : frR w t V V := fun _ _ _ _ _ _ _ => rfl
theorem frR_tr {w t : Int} {V U W : ASt} (h : frR w t V U) (h2 : frR w t U W) : frR w t V W := fun a a1 a2 a3 a4 a5 a6 => by rw [h2 a a1 a2 a3 a4 a5 a6, h a a1 a2 a3 a4 a5 a6]
theorem vS_vW {G : GM} {s : SL} {m z : Int} {V U : ASt} (hG : GOK G) (hL : LDC G s m V (V m 1)) (hS : Sol (nx G s) (qU G - 1) (lP m V) (U z) (fun q => if U z q = 0 then -1 else U (z + 1) q)) {p : Int} (hp : lP m V p) : U z p = vW G s p := (vW_e (LDC_cl hG hL) hS hp).1
theorem W_reckon {G : GM} {sb : SL} {t w : Int} {V : ASt} (hG : GOK G) (hw : isWo w) (ht : isGm t) (hF : qF G ≠ 0) (hg : gI G t V) (hW : dW G sb t w V) {c : Int} (hc : okC G sb c) :
    Tr (f_Worths_reckon S0 V w c) (fun _ U => gI G t U ∧ dW G sb t w U ∧ frR w t V U ∧ U (w + 5) (sl2 c) = vW G (scS sb c) (beg G 0) ∧ U (w + 5) (sl2 c + 1) = vW G (scS sb c) (beg G 1) ∧ vR (vW G (scS sb c) (beg G 0)) ∧ vR (vW G (scS sb c) (beg G 1))) := by
  have hww := hw
  have htt := ht
  unfold isWo at hww
  unfold isGm at htt
  have hq := qPos_le hG
  have hcr : c = -1 ∨ (0 ≤ c ∧ c < 72) := by have := okC_r hG hc; omega
  have hsl := sl2_r hcr
  obtain ⟨w1, w2, w3, w4, w5, w6⟩ := hW
  have hsc := scS_ok hG w3 hc
  unfold f_Worths_reckon
  rw [gd_t (OW hw), W_slotOf V hcr (Or.inl rfl), bnd_e, Int.add_zero, FW_5 hw, AW5 hw, gd_in (by omega) (by omega)]
  refine Tr_if (fun c9 => ?_) (fun c9 => ?_)
  · rw [FW_4 hw, gd_t (OS (isWo_3 hw)), FW_3 hw]
    refine Tr_bnd (S_copyFrom hG (isWo_3 hw) (isWo_1 hw) (by omega) w5) ?_
    rintro r1 V1 ⟨d1, f1, -⟩
    -- behind the change
    have hmain : ∀ V2 : ASt, dS G (scS sb c) (w + 3) V2 → (∀ a, a ≠ w + 3 → a ≠ w + 4 → V2 a = V a) → Tr (b_Worths_reckon_J40 S0 V2 w c) (fun _ U => gI G t U ∧ dW G sb t w U ∧ frR w t V U ∧ U (w + 5) (sl2 c) = vW G (scS sb c) (beg G 0) ∧ U (w + 5) (sl2 c + 1) = vW G (scS sb c) (beg G 1) ∧ vR (vW G (scS sb c) (beg G 0)) ∧ vR (vW G (scS sb c) (beg G 1))) := by
      intro V2 d2 f2
      have hv : isVl 73 74 86 := Or.inr ⟨rfl, rfl, rfl⟩
      have hm : isMv 74 := Or.inr rfl
      have g2 : gI G t V2 := ⟨dG_fr (f2 t (by omega) (by omega)) (fun o _ _ => f2 _ (by omega) (by omega)) hg.1, dN_fr (f2 t (by omega) (by omega)) (fun o _ _ => f2 _ (by omega) (by omega)) hg.2.1, dX_fr (f2 _ (by omega) (by omega)) hg.2.2.1, dT_fr (fun o _ _ => f2 _ (by omega) (by omega)) hg.2.2.2⟩
      unfold b_Worths_reckon_J40
      rw [FW_0 hw, gd_t (OV hv), FV_1 hv, gd_t (OM hm), f2 w (by omega) (by omega), w2, FW_4 hw]
      refine Tr_bnd (M_prepare hG hsc hm ht (isWo_3 hw) g2.1 d2) ?_
      rintro r3 V3 ⟨p3, -, -, -, f3⟩
      have g3 : gI G t V3 := gI_M hm ht (fun a ha => f3 a (by omega)) g2
      refine Tr_bnd (M_layOut hG hsc hm ht hF (Or.inl rfl) g3 p3) ?_
      rintro r4 V4 ⟨g4, p4, l4, -, f4, -, b4⟩
      have hb4 := b4 rfl
      refine Tr_bnd (V_solve hG hsc hv ht g4.1 p4.1 l4) ?_
      rintro r5 V5 ⟨f5, f5', -, s5, -⟩
      have rest : ∀ a, a ≠ w + 3 → a ≠ w + 4 → (a < 73 ∨ 91 < a) → a ≠ t + 4 → a ≠ t + 15 → V5 a = V a := fun a a1 a2 a3 a4 a5 => by rw [f5 a (by omega) (by omega), f4 a (by omega) a4 a5, f3 a (by omega), f2 a a1 a2]
      have g5 : gI G t V5 := ⟨dG_fr (f5 t (by omega) (by omega)) (fun o _ _ => f5 _ (by omega) (by omega)) g4.1, dN_fr (f5 t (by omega) (by omega)) (fun o _ _ => f5 _ (by omega) (by omega)) g4.2.1, dX_fr (f5 _ (by omega) (by omega)) g4.2.2.1, dT_fr (fun o _ _ => f5 _ (by omega) (by omega)) g4.2.2.2⟩
      have hbr0 := beg_r hG (d := 0)
      have hbr1 := beg_r hG (d := 1)
      have v0 : V5 86 (beg G 0) = vW G (scS sb c) (beg G 0) := vS_vW hG l4 s5 ⟨hbr0.1, by omega, hb4.1⟩
      have v1 : V5 86 (beg G 1) = vW G (scS sb c) (beg G 1) := vS_vW hG l4 s5 ⟨hbr1.1, by omega, hb4.2⟩
      have hU := hG.2.2.2.1
      have x0 : vR (vW G (scS sb c) (beg G 0)) := by
        have := Sol_w s5 (by omega) (p := beg G 0) ⟨hbr0.1, by omega, hb4.1⟩
        rw [v0] at this
        unfold vR; omega
      have x1 : vR (vW G (scS sb c) (beg G 1)) := by
        have := Sol_w s5 (by omega) (p := beg G 1) ⟨hbr1.1, by omega, hb4.2⟩
        rw [v1] at this
        unfold vR; omega
      have w15 : V5 w 1 = t := by rw [rest w (by omega) (by omega) (by omega) (by omega) (by omega)]; exact w2
      rw [W_slotOf V5 hcr (Or.inl rfl), bnd_e, Int.add_zero, w15, gd_t (OG ht), G_beginningOf hG ht g5.1 g5.2.1 (Or.inl rfl), bnd_e, V_worthOf hv V5 (by omega), bnd_e, FW_5 hw, AW5 hw, gd_in (by omega) (by omega), v0]
      refine Tr_set (fun V6 e6 n6 => ?_)
      have g6 : gI G t V6 := ⟨dG_fr (n6 t (by omega)) (fun o _ _ => n6 _ (by omega)) g5.1, dN_fr (n6 t (by omega)) (fun o _ _ => n6 _ (by omega)) g5.2.1, dX_fr (n6 _ (by omega)) g5.2.2.1, dT_fr (fun o _ _ => n6 _ (by omega)) g5.2.2.2⟩
      rw [W_slotOf V6 hcr (Or.inr rfl), bnd_e, n6 w (by omega), w15, gd_t (OG ht), G_beginningOf hG ht g6.1 g6.2.1 (Or.inr rfl), bnd_e, V_worthOf hv V6 (by omega), bnd_e, AW5 hw, gd_in (by omega) (by omega), n6 86 (by omega), v1]
      refine Tr_set (fun V7 e7 n7 => ?_)
      have r5 : V7 (w + 5) = upI (upI (V (w + 5)) (sl2 c) (vW G (scS sb c) (beg G 0))) (sl2 c + 1) (vW G (scS sb c) (beg G 1)) := by rw [e7, e6, f5 (w + 5) (by omega) (by omega), f4 (w + 5) (by omega) (by omega) (by omega), f3 _ (by omega), f2 _ (by omega) (by omega)]
      have rest7 : ∀ a, a ≠ w + 3 → a ≠ w + 4 → a ≠ w + 5 → (a < 73 ∨ 91 < a) → a ≠ t + 4 → a ≠ t + 15 → V7 a = V a := fun a a1 a2 a3 a4 a5 a6 => by rw [n7 a a3, n6 a a3, rest a a1 a2 a4 a5 a6]
      refine Tr_ret ⟨⟨dG_fr (n7 t (by omega)) (fun o _ _ => n7 _ (by omega)) g6.1, dN_fr (n7 t (by omega)) (fun o _ _ => n7 _ (by omega)) g6.2.1, dX_fr (n7 _ (by omega)) g6.2.2.1, dT_fr (fun o _ _ => n7 _ (by omega)) g6.2.2.2⟩, ⟨?_, ?_, w3, w4, ?_, fun c' hc' h9 => ?_⟩, rest7, by rw [r5, upI_n _ _ (by omega), upI_s], by rw [r5, upI_s], x0, x1⟩
      · rw [rest7 w (by omega) (by omega) (by omega) (by omega) (by omega) (by omega)]; exact w1
      · rw [rest7 w (by omega) (by omega) (by omega) (by omega) (by omega) (by omega)]; exact w2
      · exact dS_fr (rest7 _ (by omega) (by omega) (by omega) (by omega) (by omega) (by omega)) (rest7 _ (by omega) (by omega) (by omega) (by omega) (by omega) (by omega)) w5
      · have hcr' : c' = -1 ∨ (0 ≤ c' ∧ c' < 72) := by have := okC_r hG hc'; omega
        have hsl' := sl2_r hcr'
        by_cases ec : c' = c
        · subst ec
          rw [r5, upI_s, upI_n _ _ (by omega), upI_s]; exact ⟨rfl, rfl, x0, x1⟩
        · have hne : sl2 c' ≠ sl2 c := fun e => ec (sl2_i hcr' hcr e)
          rw [r5, upI_n _ _ (by omega), upI_n _ _ hne] at h9
          rw [r5, upI_n _ _ (by omega), upI_n _ _ hne, upI_n _ _ (by omega), upI_n _ _ (by omega)]
          exact w6 c' hc' h9
    refine Tr_if (fun c1 => ?_) (fun c1 => ?_)
    · refine hmain V1 ?_ (fun a a1 a2 => f1 a a1 (by omega))
      unfold scS
      rw [if_pos c1]; exact d1
    · have hch : chg G sb c = 1 := by rcases hc with z | z; · exact absurd z c1
                                      · exact z
      refine Tr_bnd (S_apply hG w3 (isWo_3 hw) d1 hch) ?_
      rintro r2 V2 ⟨d2, f2⟩
      refine hmain V2 ?_ (fun a a1 a2 => by rw [f2 a (by omega), f1 a a1 (by omega)])
      unfold scS
      rw [if_neg c1]; exact d2
  · have := w6 c hc c9
    exact Tr_ret ⟨hg, ⟨w1, w2, w3, w4, w5, w6⟩, frR_rfl w t V, this⟩
theorem W_worthBy {G : GM} {sb : SL} {t w : Int} {V : ASt} (hG : GOK G) (hw : isWo w) (ht : isGm t) (hF : qF G ≠ 0) (hg : gI G t V) (hW : dW G sb t w V) {c j : Int} (hc : okC G sb c) (hj : j = 0 ∨ j = 1) :
    Tr (f_Worths_worthBy S0 V w c j) (fun x U => x = vW G (scS sb c) (beg G j) ∧ gI G t U ∧ dW G sb t w U ∧ frR w t V U ∧ vR (vW G (scS sb c) (beg G j))) := by
  have hcr : c = -1 ∨ (0 ≤ c ∧ c < 72) := by have := okC_r hG hc; omega
  have hsl := sl2_r hcr
  unfold f_Worths_worthBy
  rw [gd_t (OW hw)]
  refine Tr_bnd (W_reckon hG hw ht hF hg hW hc) ?_
  rintro r U ⟨u1, u2, u3, u4, u5, u6, u7⟩
  rw [W_slotOf U hcr hj, bnd_e, FW_5 hw, AW5 hw, gd_in (by omega) (by omega)]
  rcases hj with e | e <;> subst e
  · exact Tr_ret ⟨by rw [Int.add_zero]; exact u4, u1, u2, u3, u6⟩
  · exact Tr_ret ⟨u5, u1, u2, u3, u7⟩
theorem W_loserOf {G : GM} {sb : SL} {t w : Int} {V : ASt} (hG : GOK G) (hw : isWo w) (ht : isGm t) (hF : qF G ≠ 0) (hg : gI G t V) (hW : dW G sb t w V) {j : Int} (hj : j = 0 ∨ j = 1) :
    Tr (f_Worths_loserOf S0 V w j) (fun x U => x = (if vW G sb (beg G j) = 0 then -1 else if vW G sb (beg G j) < 0 then j else 1 - j) ∧ gI G t U ∧ dW G sb t w U ∧ frR w t V U) := by
  have hcr : (-1 : Int) = -1 ∨ (0 ≤ (-1 : Int) ∧ (-1 : Int) < 72) := Or.inl rfl
  have hsl := sl2_r hcr
  unfold f_Worths_loserOf
  rw [gd_t (OW hw)]
  refine Tr_bnd (W_reckon hG hw ht hF hg hW (c := -1) (Or.inl rfl)) ?_
  rintro r U ⟨u1, u2, u3, u4, u5, -⟩
  have e : U (w + 5) (sl2 (-1) + j) = vW G sb (beg G j) := by
    rcases hj with e | e <;> subst e
    · rw [Int.add_zero]; exact u4
    · exact u5
  rw [W_slotOf U hcr hj, bnd_e, FW_5 hw, AW5 hw, gd_in (by omega) (by omega), e]
  refine Tr_if (fun c1 => ?_) (fun c1 => ?_)
  · rw [if_pos c1]; exact Tr_ret ⟨rfl, u1, u2, u3⟩
  · rw [if_neg c1]
    refine Tr_if (fun c2 => ?_) (fun c2 => ?_)
    · rw [if_neg (by omega), w32_id (by omega) (by omega)]; exact Tr_ret ⟨rfl, u1, u2, u3⟩
    · rw [if_pos (by omega)]; exact Tr_ret ⟨rfl, u1, u2, u3⟩
-- ---- choices
def lk (kd b x : Int) : Int := if kd = 2 then (if x = 0 then 1 else 0) else if b = 1 then x else -x
/-- the first best of the codes from c on, n of them -/
def chL (ok f : Int → Int) : Nat → Int → Int → Int → Int
  | 0, _, _, ch => ch
  | n + 1, c, best, ch => if ok c = 1 ∧ best < f c then chL ok f n (c + 1) (f c) c else chL ok f n (c + 1) best ch
theorem chL_stop {ok f : Int → Int} : ∀ (n : Nat) (c best ch : Int), 1 ≤ best → (∀ i, ok i = 1 → f i ≤ 1) → chL ok f n c best ch = ch := by
  intro n
  induction n with
  | zero => intro c best ch _ _; rfl
  | succ n ih =>
    intro c best ch hb hf
    rw [chL, if_neg (by rintro ⟨a, b⟩; have := hf c a; omega)]
    exact ih _ _ _ hb hf
theorem lk_r {kd b x : Int} (h : vR x) : -1 ≤ lk kd b x ∧ lk kd b x ≤ 1 := by
  unfold vR at h
  unfold lk
  by_cases c1 : kd = 2
  · rw [if_pos c1]
    by_cases c2 : x = 0
    · rw [if_pos c2]; omega
    · rw [if_neg c2]; omega
  · rw [if_neg c1]
    by_cases c2 : b = 1
    · rw [if_pos c2]; omega
    · rw [if_neg c2]; omega
/-- the change that a player of kind kd makes, if st begins then; b: whether that is the player -/
noncomputable def choS (G : GM) (sb : SL) (kd b st : Int) : Int := if kd = 0 then -1 else chL (chg G sb) (fun c => lk kd b (vW G (app sb c) (beg G st))) (6 * qR G).toNat 0 (lk kd b (vW G sb (beg G st))) (-1)
theorem W_liking {V : ASt} {x kd b : Int} (hx : vR x) (hb : b = 0 ∨ b = 1) : f_Worths_likingOf S0 V x kd b = some (lk kd b x, V) := by
  unfold vR at hx
  unfold f_Worths_likingOf lk
  by_cases c1 : kd = 2
  · rw [if_pos c1, if_pos c1]
    by_cases c2 : x = 0
    · rw [if_pos c2, if_pos c2]
    · rw [if_neg c2, if_neg c2]
  · rw [if_neg c1, if_neg c1]
    rcases hb with e | e <;> subst e
    · rw [if_pos rfl, if_neg (by decide), w32_id (by omega) (by omega)]
    · rw [if_neg (by decide), if_pos rfl]
theorem vR_of {G : GM} {sb : SL} {t w : Int} {V : ASt} (hG : GOK G) (hw : isWo w) (ht : isGm t) (hF : qF G ≠ 0) (hg : gI G t V) (hW : dW G sb t w V) {c j : Int} (hc : okC G sb c) (hj : j = 0 ∨ j = 1) : vR (vW G (scS sb c) (beg G j)) := by
  obtain ⟨r, U, -, -, -, -, -, -, h6, h7⟩ := W_reckon hG hw ht hF hg hW hc
  rcases hj with e | e <;> subst e
  · exact h6
  · exact h7
theorem scS_app {G : GM} {sb : SL} {c : Int} (h : chg G sb c = 1) : scS sb c = app sb c := by
  have := chg_r h
  unfold scS
  rw [if_neg (by omega)]
theorem choice_loop {G : GM} {sb : SL} {t w : Int} (hG : GOK G) (hw : isWo w) (ht : isGm t) (hF : qF G ≠ 0) {pl st kd b : Int} (hst : st = 0 ∨ st = 1) (hb : (b = 1 ∧ pl = st) ∨ (b = 0 ∧ pl ≠ st)) (V0 : ASt)
    : ∀ (n : Nat) (c best ch : Int) (V : ASt), 0 ≤ c → c ≤ 6 * qR G → 6 * qR G - c < n → -1 ≤ best → best ≤ 1 → gI G t V → dW G sb t w V → frR w t V0 V →
      Tr (b_Worths_choiceOf_L64 S0 w pl st kd n V best ch c) (fun x U => x = chL (chg G sb) (fun c => lk kd b (vW G (app sb c) (beg G st))) (6 * qR G - c).toNat c best ch ∧ gI G t U ∧ dW G sb t w U ∧ frR w t V0 U) := by
  have hR := hG.2.2.1
  have hww := hw
  have htt := ht
  unfold isWo at hww
  unfold isGm at htt
  intro n
  induction n with
  | zero => intro c best ch V h1 h2 h3; omega
  | succ n ih =>
    intro c best ch V c0 c1 hn hb0 hb1 hg hW f0
    rw [b_Worths_choiceOf_L64, FW_3 hw, gd_t (OS (isWo_1 hw))]
    refine Tr_bq (S_codeCount hG (isWo_1 hw) hW.2.2.2.2.1) ?_
    refine Tr_if (fun d => ?_) (fun d => ?_)
    · rw [show (6 * qR G - c).toNat = 0 by omega, chL]
      exact Tr_ret ⟨rfl, hg, hW, f0⟩
    rw [show (6 * qR G - c).toNat = (6 * qR G - (c + 1)).toNat + 1 by omega]
    refine Tr_if (fun d1 => ?_) (fun d1 => ?_)
    · refine Tr_ret ⟨?_, hg, hW, f0⟩
      refine (chL_stop _ _ _ _ d1 (fun i hi => ?_)).symm
      have := vR_of hG hw ht hF hg hW (c := i) (Or.inr hi) hst
      rw [scS_app hi] at this
      exact (lk_r this).2
    · rw [hW.2.1]
      refine Tr_bq (S_allows hG hW.2.2.1 (isWo_1 hw) hW.2.2.2.2.1 ht hg.1 c) ?_
      rw [w32_id (x := c + 1) (by omega) (by omega)]
      refine Tr_if (fun d2 => ?_) (fun d2 => ?_)
      · have := ih (c + 1) best ch V (by omega) (by omega) (by omega) hb0 hb1 hg hW f0
        rw [chL, if_neg (by rintro ⟨a, -⟩; omega)]
        exact this
      · have hch : chg G sb c = 1 := by
          have h01 : chg G sb c = 0 ∨ chg G sb c = 1 := by
            unfold chg
            by_cases q1 : 0 ≤ c ∧ c < 6 * qR G
            · rw [if_pos q1]
              by_cases q2 : qE G (sA sb (c / 6)) = 1
              · rw [if_pos q2]; exact Or.inl rfl
              · rw [if_neg q2]
                by_cases q3 : c % 6 < 2
                · rw [if_pos q3]; exact Or.inr rfl
                · rw [if_neg q3]
                  by_cases q4 : c % 6 < 5
                  · rw [if_pos q4]
                    by_cases q5 : qK G (sA sb (c / 6)) < 2 ∧ qW G (sA sb (c / 6)) ≠ 2 ∧ sN sb (sA sb (c / 6)) ≠ c % 6 - 1
                    · rw [if_pos q5]; exact Or.inr rfl
                    · rw [if_neg q5]; exact Or.inl rfl
                  · rw [if_neg q4]
                    by_cases q5 : c / 6 + 1 < qR G ∧ qE G (sA sb (c / 6 + 1)) = 0
                    · rw [if_pos q5]; exact Or.inr rfl
                    · rw [if_neg q5]; exact Or.inl rfl
            · rw [if_neg q1]; exact Or.inl rfl
          omega
        have hcr : c = -1 ∨ (0 ≤ c ∧ c < 72) := by omega
        have hsl := sl2_r hcr
        refine Tr_bnd (W_reckon hG hw ht hF hg hW (c := c) (Or.inr hch)) ?_
        rintro r U ⟨u1, u2, u3, u4, u5, u6, u7⟩
        rw [scS_app hch] at u4 u5 u6 u7
        have e : U (w + 5) (sl2 c + st) = vW G (app sb c) (beg G st) ∧ vR (vW G (app sb c) (beg G st)) := by
          rcases hst with e | e <;> subst e
          · rw [Int.add_zero]; exact ⟨u4, u6⟩
          · exact ⟨u5, u7⟩
        rw [W_slotOf U hcr hst, bnd_e, FW_5 hw, AW5 hw, gd_in (by omega) (by omega), e.1]
        have hlk := lk_r (kd := kd) (b := b) e.2
        have hJ : Tr (b_Worths_choiceOf_J127 S0 (b_Worths_choiceOf_L64 S0 w pl st kd n) U w pl st kd best ch c (vW G (app sb c) (beg G st)) kd b) (fun x U => x = chL (chg G sb) (fun c => lk kd b (vW G (app sb c) (beg G st))) ((6 * qR G - (c + 1)).toNat + 1) c best ch ∧ gI G t U ∧ dW G sb t w U ∧ frR w t V0 U) := by
          unfold b_Worths_choiceOf_J127 b_Worths_choiceOf_J146 f_Math_max_II
          refine Tr_bq (W_liking e.2 (by rcases hb with z | z <;> omega)) ?_
          rw [chL, w32_id (x := c + 1) (by omega) (by omega)]
          refine Tr_if (fun d3 => ?_) (fun d3 => ?_)
          · rw [if_neg (show ¬ (best < lk kd b (vW G (app sb c) (beg G st))) by omega), bnd_e, if_neg (show ¬ (chg G sb c = 1 ∧ best < lk kd b (vW G (app sb c) (beg G st))) from fun q => by have := q.2; omega)]
            exact ih (c + 1) best ch U (by omega) (by omega) (by omega) hb0 hb1 u1 u2 (frR_tr f0 u3)
          · rw [if_pos (show best < lk kd b (vW G (app sb c) (beg G st)) by omega), bnd_e, if_pos (show chg G sb c = 1 ∧ best < lk kd b (vW G (app sb c) (beg G st)) from ⟨hch, by omega⟩)]
            exact ih (c + 1) _ c U (by omega) (by omega) (by omega) hlk.1 hlk.2 u1 u2 (frR_tr f0 u3)
        rcases hb with ⟨z1, z2⟩ | ⟨z1, z2⟩
        · rw [if_pos z2]
          rw [z1] at hJ ⊢
          exact hJ
        · rw [if_neg z2]
          rw [z1] at hJ ⊢
          exact hJ
theorem W_choiceOf {G : GM} {sb : SL} {t w : Int} {V : ASt} (hG : GOK G) (hw : isWo w) (ht : isGm t) (hF : qF G ≠ 0) (hg : gI G t V) (hW : dW G sb t w V) {pl st : Int} (hst : st = 0 ∨ st = 1) (hpl : pl = -1 ∨ pl = 0 ∨ pl = 1) (hk : ∀ j, 0 ≤ j → j ≤ 1 → 0 ≤ V 112 j ∧ V 112 j ≤ 2) :
    Tr (f_Worths_choiceOf S0 V w pl 112 st) (fun x U => x = choS G sb (if pl = -1 then 0 else V 112 pl) (if pl = st then 1 else 0) st ∧ gI G t U ∧ dW G sb t w U ∧ frR w t V U) := by
  have hR := hG.2.2.1
  have hJ : ∀ kd, 0 ≤ kd → kd ≤ 2 → Tr (b_Worths_choiceOf_J17 S0 V w pl st kd) (fun x U => x = choS G sb kd (if pl = st then 1 else 0) st ∧ gI G t U ∧ dW G sb t w U ∧ frR w t V U) := by
    intro kd k0 k1
    unfold b_Worths_choiceOf_J17 choS
    refine Tr_if (fun d => ?_) (fun d => ?_)
    · rw [if_pos d]; exact Tr_ret ⟨rfl, hg, hW, frR_rfl w t V⟩
    · rw [if_neg d]
      have hcr : (-1 : Int) = -1 ∨ (0 ≤ (-1 : Int) ∧ (-1 : Int) < 72) := Or.inl rfl
      have hsl := sl2_r hcr
      refine Tr_bnd (W_reckon hG hw ht hF hg hW (c := -1) (Or.inl rfl)) ?_
      rintro r U ⟨u1, u2, u3, u4, u5, u6, u7⟩
      have e : U (w + 5) (sl2 (-1) + st) = vW G sb (beg G st) ∧ vR (vW G sb (beg G st)) := by
        rcases hst with e | e <;> subst e
        · rw [Int.add_zero]; exact ⟨u4, u6⟩
        · exact ⟨u5, u7⟩
      rw [W_slotOf U hcr hst, bnd_e, FW_5 hw, AW5 hw, gd_in (by omega) (by omega), e.1]
      have hJ2 : ∀ b, (b = 1 ∧ pl = st) ∨ (b = 0 ∧ pl ≠ st) → Tr (b_Worths_choiceOf_J53 S0 U w pl st kd (vW G sb (beg G st)) kd b) (fun x U => x = chL (chg G sb) (fun c => lk kd b (vW G (app sb c) (beg G st))) (6 * qR G).toNat 0 (lk kd b (vW G sb (beg G st))) (-1) ∧ gI G t U ∧ dW G sb t w U ∧ frR w t V U) := by
        intro b hb
        unfold b_Worths_choiceOf_J53
        refine Tr_bq (W_liking e.2 (by rcases hb with z | z <;> omega)) ?_
        have hlk := lk_r (kd := kd) (b := b) e.2
        have := choice_loop hG hw ht hF (sb := sb) (kd := kd) hst hb V FU 0 (lk kd b (vW G sb (beg G st))) (-1) U (by omega) (by omega) (by rw [FU_v]; omega) hlk.1 hlk.2 u1 u2 u3
        rw [show 6 * qR G - 0 = 6 * qR G by omega] at this
        exact this
      refine Tr_if (fun d2 => ?_) (fun d2 => ?_)
      · rw [if_pos d2]; exact hJ2 1 (Or.inl ⟨rfl, d2⟩)
      · rw [if_neg d2]; exact hJ2 0 (Or.inr ⟨rfl, d2⟩)
  unfold f_Worths_choiceOf
  rw [gd_t (OW hw)]
  refine Tr_if (fun d => ?_) (fun d => ?_)
  · rw [if_pos (show pl = -1 by omega)]; exact hJ 0 (by omega) (by omega)
  · have hk' := hk pl (by omega) (by omega)
    rw [gd_t O_112, L_112, if_neg (by omega), A_112, gd_in (by omega) (by omega), if_neg (show ¬ pl = -1 by omega)]
    exact hJ _ hk'.1 hk'.2
/-- the worths at w speak of nothing, or of some slate -/
def dWW (G : GM) (t w : Int) (V : ASt) : Prop := V w 2 = 0 ∨ ∃ sb, dW G sb t w V
theorem W_referTo {G : GM} {s : SL} {t w a : Int} {V : ASt} (hG : GOK G) (hs : SOK G s) (hn : SNM G s) (hw : isWo w) (ha : isSl a) (hna : a ≠ w + 1) (hW : dWW G t w V) (hS : dS G s a V) :
    Tr (f_Worths_referTo S0 V w t a) (fun _ U => dW G s t w U ∧ (∀ b, b ≠ w → b ≠ w + 1 → b ≠ w + 2 → b ≠ w + 5 → U b = V b)) := by
  have hww := hw
  unfold isWo at hww
  have haa := ha
  unfold isSl at haa
  have hJ : Tr (b_Worths_referTo_J18 S0 V w t a) (fun _ U => dW G s t w U ∧ (∀ b, b ≠ w → b ≠ w + 1 → b ≠ w + 2 → b ≠ w + 5 → U b = V b)) := by
    unfold b_Worths_referTo_J18
    refine Tr_set (fun V1 e1 n1 => ?_)
    refine Tr_set (fun V2 e2 n2 => ?_)
    have s2 : dS G s a V2 := dS_fr (by rw [n2 a (by omega), n1 a (by omega)]) (by rw [n2 _ (by omega), n1 _ (by omega)]) hS
    rw [FW_3 hw, gd_t (OS (isWo_1 hw))]
    refine Tr_bnd (S_copyFrom hG (isWo_1 hw) ha (fun e => hna e.symm) s2) ?_
    rintro r V3 ⟨d3, f3, -⟩
    rw [FW_5 hw]
    refine Tr_bq (fill_ok (WW5 hw) (NW5 hw) (by decide) (by decide)) ?_
    refine Tr_ret ⟨⟨?_, ?_, hs, hn, ?_, fun c hc h9 => ?_⟩, fun b b1 b2 b3 b4 => ?_⟩
    · rw [arow_n _ _ (by omega), f3 w (by omega) (by omega), e2, upI_n _ _ (by decide), e1, upI_s]
    · rw [arow_n _ _ (by omega), f3 w (by omega) (by omega), e2, upI_s]
    · exact dS_fr (by rw [arow_n _ _ (by omega)]) (by rw [arow_n _ _ (by omega)]) d3
    · have hsl := sl2_r (c := c) (by have := okC_r hG hc; omega)
      rw [arow_s, if_pos (by omega)] at h9
      exact absurd rfl h9
    · rw [arow_n _ _ b4, f3 b b2 (by omega), n2 b b1, n1 b b1]
  unfold f_Worths_referTo
  rw [gd_t (OW hw)]
  rcases hW with h0 | ⟨sb, hd⟩
  · exact Tr_t h0 hJ
  · refine Tr_f (by have := hd.1; omega) ?_
    obtain ⟨y, hy, hh⟩ := S_isLike hG (isWo_1 hw) ha hd.2.2.2.2.1 hS
    rw [FW_3 hw, gd_t (OS (isWo_1 hw))]
    refine Tr_bq hy ?_
    rcases hh with ⟨y1, y2⟩ | ⟨y1, y2⟩
    · have e := SL_ext hG hd.2.2.1 hs hd.2.2.2.1 hn y2
      subst e
      exact Tr_f (by omega) (Tr_ret ⟨hd, fun _ _ _ _ _ => rfl⟩)
    · exact Tr_t y1 hJ
