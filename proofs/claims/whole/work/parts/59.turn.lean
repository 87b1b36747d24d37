/-! what turns the game over; when losing pays -/
def trF (ok f : Int → Int) (w : Int) : Nat → Int → Int → Int → Int → Int × Int × Int
  | 0, _, t, s, b => (t, s, b)
  | n + 1, c, t, s, b => if ok c = 1 then (if f c = w then trF ok f w n (c + 1) t (s + 1) b else if f c = -w then trF ok f w n (c + 1) (t + 1) s (if b = -1 ∨ (b % 6 = 5 ∧ c % 6 ≠ 5) then c else b) else trF ok f w n (c + 1) t s b) else trF ok f w n (c + 1) t s b
def trP (w : Int) (r : Int × Int × Int) : Int := if w = 0 then r.1 else if w = 1 then r.2.1 else r.2.2
noncomputable def sTurning (x : ST) (w : Int) : Int := if qF (xG x) = 0 ∨ ¬ (0 ≤ w ∧ w ≤ 2) then -1 else trP w (trF (chg (xG x) (xS x)) (fun c => vW (xG x) (app (xS x) c) (beg (xG x) (xN x 0))) (vW (xG x) (xS x) (beg (xG x) (xN x 0))) (6 * qR (xG x)).toNat 0 0 0 (-1))
theorem r48 {x : ST} {W : ASt} (hW : rI x W) : W 142 48 = xN x 0 := by
  obtain ⟨b, g1, g2, g3, g4, g5, -⟩ := hW
  exact g5.1
theorem R_turning {x : ST} {V : ASt} (hG : GOK (xG x)) (hs : SOK (xG x) (xS x)) (h : rI x V) (h0 : 0 ≤ xN x 0) (w : Int) : Tr (f_M_turning S0 V 142 w) (fun r U => r = sTurning x w ∧ rI x U ∧ frM V U) := by
  have hR := hG.2.2.1
  have hgg := h
  obtain ⟨b, g1, -⟩ := hgg
  unfold f_M_turning sTurning
  refine Tr_gd O_142 (Tr_bq (M_hasFields hG g1) ?_)
  by_cases c : qF (xG x) = 0
  · rw [if_pos c, if_pos (show qF (xG x) = 0 ∨ ¬ (0 ≤ w ∧ w ≤ 2) from Or.inl c)]
    exact Tr_t rfl (Tr_ret ⟨rfl, h, fun _ _ => rfl⟩)
  rw [if_neg c]
  refine Tr_f (by decide) (Tr_bq (M_is V w 0 2) ?_)
  by_cases d : 0 ≤ w ∧ w ≤ 2
  · rw [if_pos d, if_neg (show ¬ (qF (xG x) = 0 ∨ ¬ (0 ≤ w ∧ w ≤ 2)) from fun z => z.elim c (fun y => y d))]
    refine Tr_f (by decide) ?_
    rw [r48 h]
    refine Tr_bnd (R_worthOn hG hs h h0) ?_
    rintro r U ⟨u1, u2, u3, u4, -, -⟩
    rw [u1]
    generalize vW (xG x) (xS x) (beg (xG x) (xN x 0)) = nw at u4 ⊢
    unfold vR at u4
    have hl : ∀ (f : Nat) (c t s b : Int) (W : ASt), 0 ≤ c → c ≤ 6 * qR (xG x) → 6 * qR (xG x) - c < f → 0 ≤ t → t ≤ c → 0 ≤ s → s ≤ c → (b = -1 ∨ 0 ≤ b) → rI x W → frM V W →
        Tr (b_M_turning_L38 S0 142 w nw f W t s b c) (fun r U => r = trP w (trF (chg (xG x) (xS x)) (fun c => vW (xG x) (app (xS x) c) (beg (xG x) (xN x 0))) nw (6 * qR (xG x) - c).toNat c t s b) ∧ rI x U ∧ frM V U) := by
      intro f
      induction f with
      | zero => intro c t s b W h1 h2 h3; omega
      | succ f ih =>
        intro c t s b W c0 c1 hf t0 t1 s0 s1 hb hW fW
        have hWg := hW
        obtain ⟨b', k1, -⟩ := hWg
        rw [b_M_turning_L38]
        refine Tr_bq (M_rulesAll k1) ?_
        rw [w32_id (x := 6 * qR (xG x)) (by omega) (by omega)]
        refine Tr_if (fun e => ?_) (fun e => ?_)
        · rw [show (6 * qR (xG x) - c).toNat = 0 by omega, trF]
          unfold trP
          refine Tr_if (fun e => ?_) (fun e => ?_)
          · rw [if_pos e]; exact Tr_ret ⟨rfl, hW, fW⟩
          rw [if_neg e]
          refine Tr_if (fun e => ?_) (fun e => ?_)
          · rw [if_pos e]; exact Tr_ret ⟨rfl, hW, fW⟩
          rw [if_neg e]; exact Tr_ret ⟨rfl, hW, fW⟩
        rw [show (6 * qR (xG x) - c).toNat = (6 * qR (xG x) - (c + 1)).toNat + 1 by omega, trF]
        refine Tr_bq (R_isChange hG hs hW c) ?_
        have h01 := chg_01 (xG x) (xS x) c
        rw [w32_id (x := c + 1) (by omega) (by omega)]
        refine Tr_if (fun e => ?_) (fun e => ?_)
        · rw [if_neg (show ¬ (chg (xG x) (xS x) c = 1) by omega)]
          exact ih (c + 1) t s b W (by omega) (by omega) (by omega) t0 (by omega) s0 (by omega) hb hW fW
        have hc1 : chg (xG x) (xS x) c = 1 := by omega
        rw [if_pos hc1, r48 hW]
        refine Tr_bnd (R_worthWith hG hs hW hc1 h0) ?_
        rintro r7 Z ⟨z1, z2, z3, z4⟩
        have fZ : frM V Z := frM_tr fW z3
        rw [z1]
        generalize vW (xG x) (app (xS x) c) (beg (xG x) (xN x 0)) = v at z4 ⊢
        unfold vR at z4
        unfold b_M_turning_J87
        rw [w32_id (x := c + 1) (by omega) (by omega), w32_id (x := t + 1) (by omega) (by omega), w32_id (x := -nw) (by omega) (by omega), w32_id (x := s + 1) (by omega) (by omega), w32_id (x := s + 0) (by omega) (by omega), show s + 0 = s by omega]
        refine Tr_if (fun e1 => ?_) (fun e1 => ?_)
        · rw [if_pos e1]
          refine Tr_if (fun e2 => ?_) (fun e2 => ?_)
          · exact ih (c + 1) t (s + 1) b Z (by omega) (by omega) (by omega) t0 (by omega) (by omega) (by omega) hb z2 fZ
          · rw [if_neg (show ¬ (v = -nw) by omega)]
            exact ih (c + 1) t (s + 1) b Z (by omega) (by omega) (by omega) t0 (by omega) (by omega) (by omega) hb z2 fZ
        · rw [if_neg e1]
          refine Tr_if (fun e2 => ?_) (fun e2 => ?_)
          · rw [if_neg (show ¬ (v = -nw) by omega)]
            exact ih (c + 1) t s b Z (by omega) (by omega) (by omega) t0 (by omega) (by omega) (by omega) hb z2 fZ
          refine Tr_if (fun e3 => ?_) (fun e3 => ?_)
          · rw [if_pos e3]
            refine Tr_if (fun e4 => ?_) (fun e4 => ?_)
            · rw [if_pos (Or.inl e4)]
              exact ih (c + 1) (t + 1) s c Z (by omega) (by omega) (by omega) (by omega) (by omega) (by omega) (by omega) (by omega) z2 fZ
            · rw [tmod_e (show 0 ≤ b by omega), tmod_e c0]
              refine Tr_if (fun e5 => ?_) (fun e5 => ?_)
              · refine Tr_if (fun e6 => ?_) (fun e6 => ?_)
                · rw [if_neg (show ¬ (b = -1 ∨ (b % 6 = 5 ∧ c % 6 ≠ 5)) by omega)]
                  exact ih (c + 1) (t + 1) s b Z (by omega) (by omega) (by omega) (by omega) (by omega) (by omega) (by omega) hb z2 fZ
                · rw [if_pos (show b = -1 ∨ (b % 6 = 5 ∧ c % 6 ≠ 5) by omega)]
                  exact ih (c + 1) (t + 1) s c Z (by omega) (by omega) (by omega) (by omega) (by omega) (by omega) (by omega) (by omega) z2 fZ
              · rw [if_neg (show ¬ (b = -1 ∨ (b % 6 = 5 ∧ c % 6 ≠ 5)) by omega)]
                exact ih (c + 1) (t + 1) s b Z (by omega) (by omega) (by omega) (by omega) (by omega) (by omega) (by omega) hb z2 fZ
          · rw [if_neg e3]
            exact ih (c + 1) t s b Z (by omega) (by omega) (by omega) t0 (by omega) (by omega) (by omega) hb z2 fZ
    have := hl FU 0 0 0 (-1) U (by omega) (by omega) (by rw [FU_v]; omega) (by omega) (by omega) (by omega) (by omega) (Or.inl rfl) u2 u3
    rw [show 6 * qR (xG x) - 0 = 6 * qR (xG x) by omega] at this
    exact this
  · rw [if_neg d, if_pos (show qF (xG x) = 0 ∨ ¬ (0 ≤ w ∧ w ≤ 2) from Or.inr d)]
    exact Tr_t rfl (Tr_ret ⟨rfl, h, fun _ _ => rfl⟩)
theorem W_words (V : ASt) {c : Int} (h : 0 ≤ c) : f_SG_wordsOf S0 V c = some (if c % 6 = 5 then 2 else 1, V) := by
  unfold f_SG_wordsOf
  rw [tmod_e h]
  by_cases e : c % 6 = 5
  · rw [if_pos e, if_pos e]
  · rw [if_neg e, if_neg e]
theorem D_turning {x : ST} {t : Int} {V : ASt} (hG : GOK (xG x)) (hs : SOK (xG x) (xS x)) (hn : SNM (xG x) (xS x)) (h : dIt x t V) (w : Int) : Tr (f_SG_turning S0 V 0 w) (fun r U => r = sTurning x w ∧ dIt x t U ∧ frX V U) := by
  have hR := hG.2.2.1
  have h' := h
  obtain ⟨h0, h1, h2, h3, h4, -⟩ := h
  have ha : isSl 41 := Or.inl rfl
  unfold f_SG_turning sTurning
  rw [gd_t O_0, h1.1, gd_t (OG h0), h2.1.1]
  refine Tr_if (fun cf => ?_) (fun cf => ?_)
  · rw [if_pos (show qF (xG x) = 0 ∨ ¬ (0 ≤ w ∧ w ≤ 2) from Or.inl cf)]; exact Tr_ret ⟨rfl, h', fun _ _ => rfl⟩
  refine Tr_if (fun d => ?_) (fun d => ?_)
  · rw [if_pos (show qF (xG x) = 0 ∨ ¬ (0 ≤ w ∧ w ≤ 2) from Or.inr (by omega))]; exact Tr_ret ⟨rfl, h', fun _ _ => rfl⟩
  refine Tr_if (fun d2 => ?_) (fun d2 => ?_)
  · rw [if_neg (show ¬ (qF (xG x) = 0 ∨ ¬ (0 ≤ w ∧ w ≤ 2)) from fun z => z.elim cf (fun y => y ⟨by omega, d2⟩)), F_0_4]
    refine Tr_bnd (D_worthsOf hG hs hn h' ha (by decide) h4) ?_
    rintro q U ⟨u1, u2⟩
    have hq : 0 ≤ q := by have := u1.2.1; unfold isWo at this; omega
    rw [gd_t (show nn q = true from decide_eq_true hq)]
    refine Tr_bq (D_starter u1.1) ?_
    rw [gd_t (OW u1.2.1)]
    refine Tr_bnd (Q_worthBy hG cf u1 (c := -1) (Or.inl rfl) (by omega)) ?_
    rintro r W ⟨w1, w2, w3, w4⟩
    rw [w1]
    rw [beg_m] at w4 ⊢
    have esc : scS (xS x) (-1) = xS x := rfl
    rw [esc] at w4 ⊢
    generalize vW (xG x) (xS x) (beg (xG x) (xN x 0)) = nw at w4 ⊢
    unfold vR at w4
    have hl : ∀ (f : Nat) (c tu s b : Int) (W : ASt), 0 ≤ c → c ≤ 6 * qR (xG x) → 6 * qR (xG x) - c < f → 0 ≤ tu → tu ≤ c → 0 ≤ s → s ≤ c → (b = -1 ∨ 0 ≤ b) → dQ x t q (xS x) W → frQ t V W →
        Tr (b_SG_turning_L52 S0 0 w q nw f W tu s b c) (fun r U => r = trP w (trF (chg (xG x) (xS x)) (fun c => vW (xG x) (app (xS x) c) (beg (xG x) (xN x 0))) nw (6 * qR (xG x) - c).toNat c tu s b) ∧ dIt x t U ∧ frX V U) := by
      intro f
      induction f with
      | zero => intro c tu s b W h1 h2 h3; omega
      | succ f ih =>
        intro c tu s b W c0 c1 hf t0 t1 s0 s1 hb hW fW
        have hWg := hW.1
        obtain ⟨k0, k1, k2, k3, k4, -⟩ := hWg
        rw [b_SG_turning_L52, F_0_4, gd_t O_41]
        refine Tr_bq (S_codeCount hG ha k4) ?_
        refine Tr_if (fun e => ?_) (fun e => ?_)
        · rw [show (6 * qR (xG x) - c).toNat = 0 by omega, trF]
          unfold trP
          refine Tr_if (fun e => ?_) (fun e => ?_)
          · rw [if_pos e]; exact Tr_ret ⟨rfl, hW.1, frQ_X h0 fW⟩
          rw [if_neg e]
          refine Tr_if (fun e => ?_) (fun e => ?_)
          · rw [if_pos e]; exact Tr_ret ⟨rfl, hW.1, frQ_X h0 fW⟩
          rw [if_neg e]; exact Tr_ret ⟨rfl, hW.1, frQ_X h0 fW⟩
        rw [show (6 * qR (xG x) - c).toNat = (6 * qR (xG x) - (c + 1)).toNat + 1 by omega, trF, k1.1]
        refine Tr_bq (S_allows hG hs ha k4 k0 k2.1 c) ?_
        have h01 := chg_01 (xG x) (xS x) c
        refine Tr_if (fun e => ?_) (fun e => ?_)
        · rw [if_neg (show ¬ (chg (xG x) (xS x) c = 1) by omega)]
          unfold b_SG_turning_J95
          rw [if_neg (show ¬ (-2 = nw) by omega), w32_id (x := -nw) (by omega) (by omega), if_neg (show ¬ (-2 = -nw) by omega), w32_id (x := c + 1) (by omega) (by omega)]
          exact ih (c + 1) tu s b W (by omega) (by omega) (by omega) t0 (by omega) s0 (by omega) hb hW fW
        have hc1 : chg (xG x) (xS x) c = 1 := by omega
        rw [if_pos hc1]
        refine Tr_bq (D_starter hW.1) ?_
        rw [gd_t (OW hW.2.1)]
        refine Tr_bnd (Q_worthBy hG cf hW (c := c) (Or.inr hc1) (by omega)) ?_
        rintro r7 Z ⟨z1, z2, z3, z4⟩
        have fZ : frQ t V Z := frQ_tr fW z3
        rw [z1]
        rw [beg_m, scS_app hc1] at z4 ⊢
        generalize vW (xG x) (app (xS x) c) (beg (xG x) (xN x 0)) = v at z4 ⊢
        unfold vR at z4
        unfold b_SG_turning_J95
        rw [w32_id (x := c + 1) (by omega) (by omega), w32_id (x := tu + 1) (by omega) (by omega), w32_id (x := -nw) (by omega) (by omega), w32_id (x := s + 1) (by omega) (by omega)]
        refine Tr_if (fun e1 => ?_) (fun e1 => ?_)
        · rw [if_pos e1]
          exact ih (c + 1) tu (s + 1) b Z (by omega) (by omega) (by omega) t0 (by omega) (by omega) (by omega) hb z2 fZ
        rw [if_neg e1]
        refine Tr_if (fun e3 => ?_) (fun e3 => ?_)
        · rw [if_pos e3]
          refine Tr_if (fun e4 => ?_) (fun e4 => ?_)
          · rw [if_pos (Or.inl e4)]
            exact ih (c + 1) (tu + 1) s c Z (by omega) (by omega) (by omega) (by omega) (by omega) (by omega) (by omega) (by omega) z2 fZ
          · refine Tr_bq (W_words Z c0) ?_
            refine Tr_bq (W_words Z (show 0 ≤ b by omega)) ?_
            by_cases e5 : b % 6 = 5 ∧ c % 6 ≠ 5
            · rw [if_pos e5.1, if_neg e5.2, if_neg (by decide), if_pos (Or.inr e5)]
              exact ih (c + 1) (tu + 1) s c Z (by omega) (by omega) (by omega) (by omega) (by omega) (by omega) (by omega) (by omega) z2 fZ
            · rw [if_neg (show ¬ (b = -1 ∨ (b % 6 = 5 ∧ c % 6 ≠ 5)) from fun z => z.elim e4 e5)]
              refine Tr_t ?_ (ih (c + 1) (tu + 1) s b Z (by omega) (by omega) (by omega) (by omega) (by omega) (by omega) (by omega) hb z2 fZ)
              by_cases e6 : b % 6 = 5
              · rw [if_pos e6, if_pos (show c % 6 = 5 by omega)]; exact Int.le_refl _
              · rw [if_neg e6]
                by_cases e7 : c % 6 = 5
                · rw [if_pos e7]; decide
                · rw [if_neg e7]; exact Int.le_refl _
        · rw [if_neg e3]
          exact ih (c + 1) tu s b Z (by omega) (by omega) (by omega) t0 (by omega) (by omega) (by omega) hb z2 fZ
    have := hl FU 0 0 0 (-1) W (by omega) (by omega) (by rw [FU_v]; omega) (by omega) (by omega) (by omega) (by omega) (Or.inl rfl) w2 (frQ_tr u2 w3)
    rw [show 6 * qR (xG x) - 0 = 6 * qR (xG x) by omega] at this
    exact this
  · rw [if_pos (show qF (xG x) = 0 ∨ ¬ (0 ≤ w ∧ w ≤ 2) from Or.inr (by omega))]; exact Tr_ret ⟨rfl, h', fun _ _ => rfl⟩
-- ---- when losing pays
theorem chL_ok {ok f : Int → Int} : ∀ (n : Nat) (c best ch : Int), (ch = -1 ∨ ok ch = 1) → (chL ok f n c best ch = -1 ∨ ok (chL ok f n c best ch) = 1) := by
  intro n
  induction n with
  | zero => intro c best ch h; rw [chL]; exact h
  | succ n ih =>
    intro c best ch h
    by_cases e : ok c = 1 ∧ best < f c
    · rw [chL_some e]; exact ih _ _ _ (Or.inr e.1)
    · rw [chL_none e]; exact ih _ _ _ h
theorem choS_ok (G : GM) (sb : SL) (kd b st : Int) : okC G sb (choS G sb kd b st) := by
  unfold choS okC
  by_cases e : kd = 0
  · rw [if_pos e]; exact Or.inl rfl
  · rw [if_neg e]; exact chL_ok _ _ _ _ (Or.inl rfl)
noncomputable def bhS (x : ST) (d : Int) : Int := vW (xG x) (scS (xS x) (wdS x d)) (beg (xG x) (xN x 0 + 1))
noncomputable def sPays (x : ST) (n : Int) : Int := if qF (xG x) = 0 ∨ ¬ (0 ≤ n ∧ n ≤ 100) then -1 else if -(bhS x (xN x 0 % 2)) - n ≤ n + -(bhS x (1 - xN x 0 % 2)) then 0 else 1
theorem R_behindOf {x : ST} {V : ASt} (hG : GOK (xG x)) (hs : SOK (xG x) (xS x)) (h : rI x V) (h0 : 0 ≤ xN x 0 ∧ xN x 0 ≤ 100000) (hk : (0 ≤ xN x 10 ∧ xN x 10 ≤ 2) ∧ (0 ≤ xN x 11 ∧ xN x 11 ≤ 2)) {d : Int} (hd : d = 0 ∨ d = 1) : Tr (f_M_behindOf S0 V 142 d (xN x 0 % 2)) (fun r U => r = -(bhS x d) ∧ rI x U ∧ frM V U ∧ vR (bhS x d)) := by
  have hJ : ∀ (W : ASt) (v : Int), rI x W → frM V W → vR v → v = bhS x d → Tr (b_M_behindOf_J35 S0 W 142 (xN x 0 % 2) v) (fun r U => r = -(bhS x d) ∧ rI x U ∧ frM V U ∧ vR (bhS x d)) := by
    intro W v hW fW hv e
    unfold b_M_behindOf_J35
    rw [r48 hW, w32_id (x := xN x 0 + 1) (by omega) (by omega)]
    refine Tr_bq (M_forPlayer (by omega) hv) ?_
    refine Tr_ret ⟨?_, hW, fW, e ▸ hv⟩
    unfold lk
    rw [if_neg (by decide), if_neg (show ¬ (xN x 0 % 2 = (xN x 0 + 1) % 2) by omega), if_neg (by decide), e]
  unfold f_M_behindOf
  refine Tr_gd O_142 (Tr_bnd (R_wouldOf hG hs h h0 hk hd) ?_)
  rintro r U ⟨u1, u2, u3⟩
  rw [u1, r48 u2, w32_id (x := xN x 0 + 1) (by omega) (by omega)]
  refine Tr_if (fun c => ?_) (fun c => ?_)
  · refine Tr_bnd (R_worthOn hG hs u2 (d := xN x 0 + 1) (by omega)) ?_
    rintro r2 W ⟨w1, w2, w3, w4, -, -⟩
    rw [w1]
    refine hJ W _ w2 (frM_tr u3 w3) w4 ?_
    unfold bhS scS
    rw [if_pos c]
  · have hc1 : chg (xG x) (xS x) (wdS x d) = 1 := by
      rcases choS_ok (xG x) (xS x) (kdF x d) (if d = (xN x 0 + 1) % 2 then 1 else 0) ((xN x 0 + 1) % 2) with z | z
      · exact absurd z c
      · exact z
    refine Tr_bnd (R_worthWith hG hs u2 hc1 (d := xN x 0 + 1) (by omega)) ?_
    rintro r2 W ⟨w1, w2, w3, w4⟩
    rw [w1]
    refine hJ W _ w2 (frM_tr u3 w3) w4 ?_
    unfold bhS scS
    rw [if_neg c]
theorem R_pays {x : ST} {V : ASt} (hG : GOK (xG x)) (hs : SOK (xG x) (xS x)) (h : rI x V) (h0 : 0 ≤ xN x 0 ∧ xN x 0 ≤ 100000) (hk : (0 ≤ xN x 10 ∧ xN x 10 ≤ 2) ∧ (0 ≤ xN x 11 ∧ xN x 11 ≤ 2)) (n : Int) : Tr (f_M_pays S0 V 142 n) (fun r U => r = sPays x n ∧ rI x U ∧ frM V U) := by
  have hgg := h
  obtain ⟨b, g1, -⟩ := hgg
  unfold f_M_pays sPays
  refine Tr_gd O_142 (Tr_bq (M_hasFields hG g1) ?_)
  by_cases c : qF (xG x) = 0
  · rw [if_pos c, if_pos (show qF (xG x) = 0 ∨ ¬ (0 ≤ n ∧ n ≤ 100) from Or.inl c)]
    exact Tr_t rfl (Tr_ret ⟨rfl, h, fun _ _ => rfl⟩)
  rw [if_neg c]
  refine Tr_f (by decide) (Tr_bq (M_is V n 0 100) ?_)
  by_cases d : 0 ≤ n ∧ n ≤ 100
  · rw [if_pos d, if_neg (show ¬ (qF (xG x) = 0 ∨ ¬ (0 ≤ n ∧ n ≤ 100)) from fun z => z.elim c (fun y => y d))]
    refine Tr_f (by decide) ?_
    rw [r48 h, tmod_e h0.1, w32_id (x := 1 - xN x 0 % 2) (by omega) (by omega)]
    refine Tr_bnd (R_behindOf hG hs h h0 hk (d := 1 - xN x 0 % 2) (by omega)) ?_
    rintro r U ⟨u1, u2, u3, u4⟩
    refine Tr_bnd (R_behindOf hG hs u2 h0 hk (d := xN x 0 % 2) (by omega)) ?_
    rintro r2 W ⟨w1, w2, w3, w4⟩
    unfold vR at u4 w4
    rw [u1, w1, w32_id (by omega) (by omega), w32_id (by omega) (by omega)]
    refine Tr_if (fun e => ?_) (fun e => ?_)
    · rw [if_pos e]; exact Tr_ret ⟨rfl, w2, frM_tr u3 w3⟩
    · rw [if_neg e]; exact Tr_ret ⟨rfl, w2, frM_tr u3 w3⟩
  · rw [if_neg d, if_pos (show qF (xG x) = 0 ∨ ¬ (0 ≤ n ∧ n ≤ 100) from Or.inr d)]
    exact Tr_t rfl (Tr_ret ⟨rfl, h, fun _ _ => rfl⟩)
theorem D_pays {x : ST} {t : Int} {V : ASt} (hG : GOK (xG x)) (hs : SOK (xG x) (xS x)) (hn : SNM (xG x) (xS x)) (h : dIt x t V) (h00 : 0 ≤ xN x 0) (hk : (0 ≤ xN x 10 ∧ xN x 10 ≤ 2) ∧ (0 ≤ xN x 11 ∧ xN x 11 ≤ 2)) (n : Int) : Tr (f_SG_pays S0 V 0 n) (fun r U => r = sPays x n ∧ dIt x t U ∧ frX V U) := by
  have h' := h
  obtain ⟨h0, h1, h2, h3, h4, -⟩ := h
  have ha : isSl 41 := Or.inl rfl
  unfold f_SG_pays sPays
  rw [gd_t O_0, h1.1, gd_t (OG h0), h2.1.1]
  refine Tr_if (fun cf => ?_) (fun cf => ?_)
  · rw [if_pos (show qF (xG x) = 0 ∨ ¬ (0 ≤ n ∧ n ≤ 100) from Or.inl cf)]; exact Tr_ret ⟨rfl, h', fun _ _ => rfl⟩
  refine Tr_if (fun d => ?_) (fun d => ?_)
  · rw [if_pos (show qF (xG x) = 0 ∨ ¬ (0 ≤ n ∧ n ≤ 100) from Or.inr (by omega))]; exact Tr_ret ⟨rfl, h', fun _ _ => rfl⟩
  refine Tr_if (fun d2 => ?_) (fun d2 => ?_)
  · rw [if_neg (show ¬ (qF (xG x) = 0 ∨ ¬ (0 ≤ n ∧ n ≤ 100)) from fun z => z.elim cf (fun y => y ⟨by omega, d2⟩)), F_0_4]
    refine Tr_bq (D_starter h') ?_
    refine Tr_bnd (D_worthsOf hG hs hn h' ha (by decide) h4) ?_
    rintro q U ⟨u1, u2⟩
    have hq : 0 ≤ q := by have := u1.2.1; unfold isWo at this; omega
    have est : w32 (1 - xN x 0 % 2) = (xN x 0 + 1) % 2 := by rw [w32_id (by omega) (by omega)]; omega
    rw [gd_t (show nn q = true from decide_eq_true hq), gd_t (OW u1.2.1), F_0_16, est]
    refine Tr_bnd (Q_choiceOf hG cf hk u1 (pl := (xN x 0 + 1) % 2) (st := (xN x 0 + 1) % 2) (by omega) (by omega)) ?_
    rintro r W ⟨w1, w2, w3⟩
    refine Tr_bnd (Q_choiceOf hG cf hk w2 (pl := xN x 0 % 2) (st := (xN x 0 + 1) % 2) (by omega) (by omega)) ?_
    rintro r2 Z ⟨z1, z2, z3⟩
    have e1 : r = wdS x (1 - xN x 0 % 2) := by rw [w1, show 1 - xN x 0 % 2 = (xN x 0 + 1) % 2 by omega]; rfl
    have e2 : r2 = wdS x (xN x 0 % 2) := z1
    have o1 : okC (xG x) (xS x) r := by rw [w1]; exact choS_ok _ _ _ _ _
    have o2 : okC (xG x) (xS x) r2 := by rw [z1]; exact choS_ok _ _ _ _ _
    refine Tr_bnd (Q_worthBy hG cf z2 (c := r) (j := (xN x 0 + 1) % 2) o1 (by omega)) ?_
    rintro r3 Y ⟨y1, y2, y3, y4⟩
    refine Tr_bnd (Q_worthBy hG cf y2 (c := r2) (j := (xN x 0 + 1) % 2) o2 (by omega)) ?_
    rintro r4 Y2 ⟨v1, v2, v3, v4⟩
    have b1 : r3 = bhS x (1 - xN x 0 % 2) := by rw [y1, beg_m, e1]; rfl
    have b2 : r4 = bhS x (xN x 0 % 2) := by rw [v1, beg_m, e2]; rfl
    rw [← y1] at y4
    rw [← v1] at v4
    unfold vR at y4 v4
    rw [← b1, ← b2, w32_id (x := -r3) (by omega) (by omega), w32_id (x := -r4) (by omega) (by omega), w32_id (x := -r4 - n) (by omega) (by omega), w32_id (x := n + -r3) (by omega) (by omega)]
    have fX : frX V Y2 := frQ_X h0 (frQ_tr u2 (frQ_tr w3 (frQ_tr z3 (frQ_tr y3 v3))))
    refine Tr_if (fun e => ?_) (fun e => ?_)
    · rw [if_pos e]; exact Tr_ret ⟨rfl, v2.1, fX⟩
    · rw [if_neg e]; exact Tr_ret ⟨rfl, v2.1, fX⟩
  · rw [if_pos (show qF (xG x) = 0 ∨ ¬ (0 ≤ n ∧ n ≤ 100) from Or.inr (by omega))]; exact Tr_ret ⟨rfl, h', fun _ _ => rfl⟩
