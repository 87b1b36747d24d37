/-! the reference: worths behind changes, choices -/
theorem app_app {s : SL} {c : Int} (h : c % 6 = 0 ∨ c % 6 = 1 ∨ c % 6 = 5) : app (app s c) c = s := by
  obtain ⟨A, X, T, N⟩ := s
  rcases h with h | h | h
  · have e : app (A, X, T, N) c = (A, upI X (A (c / 6)) (1 - X (A (c / 6))), T, N) := by unfold app; rw [if_pos h]; rfl
    rw [e]
    unfold app
    rw [if_pos h]
    show (A, upI (upI X (A (c / 6)) (1 - X (A (c / 6)))) (A (c / 6)) (1 - upI X (A (c / 6)) (1 - X (A (c / 6))) (A (c / 6))), T, N) = _
    have : upI (upI X (A (c / 6)) (1 - X (A (c / 6)))) (A (c / 6)) (1 - upI X (A (c / 6)) (1 - X (A (c / 6))) (A (c / 6))) = X := by
      funext i
      by_cases z : i = A (c / 6)
      · rw [z, upI_s, upI_s]; omega
      · rw [upI_n _ _ z, upI_n _ _ z]
    rw [this]
  · have n0 : ¬ (c % 6 = 0) := by omega
    have e : app (A, X, T, N) c = (A, X, upI T (A (c / 6)) (1 - T (A (c / 6))), N) := by unfold app; rw [if_neg n0, if_pos h]; rfl
    rw [e]
    unfold app
    rw [if_neg n0, if_pos h]
    show (A, X, upI (upI T (A (c / 6)) (1 - T (A (c / 6)))) (A (c / 6)) (1 - upI T (A (c / 6)) (1 - T (A (c / 6))) (A (c / 6))), N) = _
    have : upI (upI T (A (c / 6)) (1 - T (A (c / 6)))) (A (c / 6)) (1 - upI T (A (c / 6)) (1 - T (A (c / 6))) (A (c / 6))) = T := by
      funext i
      by_cases z : i = A (c / 6)
      · rw [z, upI_s, upI_s]; omega
      · rw [upI_n _ _ z, upI_n _ _ z]
    rw [this]
  · have n0 : ¬ (c % 6 = 0) := by omega
    have n1 : ¬ (c % 6 = 1) := by omega
    have e : app (A, X, T, N) c = (upI (upI A (c / 6) (A (c / 6 + 1))) (c / 6 + 1) (A (c / 6)), X, T, N) := by unfold app; rw [if_neg n0, if_neg n1, if_pos h]; rfl
    rw [e]
    unfold app
    rw [if_neg n0, if_neg n1, if_pos h]
    show (upI (upI (upI (upI A (c / 6) (A (c / 6 + 1))) (c / 6 + 1) (A (c / 6))) (c / 6) (upI (upI A (c / 6) (A (c / 6 + 1))) (c / 6 + 1) (A (c / 6)) (c / 6 + 1))) (c / 6 + 1) (upI (upI A (c / 6) (A (c / 6 + 1))) (c / 6 + 1) (A (c / 6)) (c / 6)), X, T, N) = _
    have : upI (upI (upI (upI A (c / 6) (A (c / 6 + 1))) (c / 6 + 1) (A (c / 6))) (c / 6) (upI (upI A (c / 6) (A (c / 6 + 1))) (c / 6 + 1) (A (c / 6)) (c / 6 + 1))) (c / 6 + 1) (upI (upI A (c / 6) (A (c / 6 + 1))) (c / 6 + 1) (A (c / 6)) (c / 6)) = A := by
      funext i
      by_cases z : i = c / 6 + 1
      · rw [z, upI_s, upI_n _ _ (show c / 6 ≠ c / 6 + 1 by omega), upI_s]
      · rw [upI_n _ _ z]
        by_cases z2 : i = c / 6
        · rw [z2, upI_s, upI_s]
        · rw [upI_n _ _ z2, upI_n _ _ z, upI_n _ _ z2]
    rw [this]
theorem uS_x (x : ST) : uS x (xS x) = x := rfl
theorem R_worthWith {x : ST} {V : ASt} (hG : GOK (xG x)) (hs : SOK (xG x) (xS x)) (h : rI x V) {c d : Int} (hc : chg (xG x) (xS x) c = 1) (hd : 0 ≤ d) : Tr (f_M_worthWith S0 V 142 c d) (fun r U => r = vW (xG x) (app (xS x) c) (beg (xG x) d) ∧ rI x U ∧ frM V U ∧ vR (vW (xG x) (app (xS x) c) (beg (xG x) d))) := by
  have h' := h
  obtain ⟨b, g1, g2, g3, g4, -⟩ := h
  have hR := hG.2.2.1
  have hcr := chg_r hc
  have ra := hs.1 (c / 6) (by omega) (by omega)
  have hr := g4 (c / 6) (by omega) (by omega)
  have hr2 := g4 (sA (xS x) (c / 6)) ra.1 ra.2
  have hs1 := app_ok hG hs hc
  unfold f_M_worthWith
  rw [gd_t O_142, tdiv_e hcr.1, tmod_e hcr.1, w32_id (x := c / 6) (by omega) (by omega), F_142_44, A_169, gd_in (by omega) (by omega), hr.1, F_142_47, A_172, gd_in (by omega) (by omega), hr2.2.2.2]
  refine Tr_bnd (R_changes hG hs h' hcr) ?_
  rintro r U ⟨u1, u2⟩
  refine Tr_bnd (R_worthOn (x := uS x (app (xS x) c)) hG hs1 u1 hd) ?_
  rintro r2 W ⟨w1, w2, w3, w4, w5, w6⟩
  have fM : frM V W := frM_tr (fun a ha => u2 a (by omega) (by omega) (by omega) (by omega)) w3
  have hJ : (c % 6 = 0 ∨ c % 6 = 1 ∨ c % 6 = 5) → Tr (b_M_worthWith_J59 S0 W 142 c r2) (fun r U => r = vW (xG x) (app (xS x) c) (beg (xG x) d) ∧ rI x U ∧ frM V U ∧ vR (vW (xG x) (app (xS x) c) (beg (xG x) d))) := by
    intro hk
    unfold b_M_worthWith_J59
    refine Tr_bnd (R_changes (x := uS x (app (xS x) c)) hG hs1 w2 hcr) ?_
    rintro r3 Z ⟨z1, z2⟩
    refine Tr_ret ⟨w1, ?_, frM_tr fM (fun a ha => z2 a (by omega) (by omega) (by omega) (by omega)), w4⟩
    have e : uS (uS x (app (xS x) c)) (app (xS (uS x (app (xS x) c))) c) = x := by
      show uS x (app (app (xS x) c) c) = x
      rw [app_app hk]; exact uS_x x
    rw [e] at z1
    exact z1
  refine Tr_if (fun d1 => hJ (by omega)) (fun d1 => ?_)
  refine Tr_if (fun d5 => hJ (by omega)) (fun d5 => ?_)
  refine Tr_set (fun Z e1 n1 => ?_)
  have hSW : rS (xG x) (app (xS x) c) W := by obtain ⟨b', k1, k2, k3, k4, -⟩ := w2; exact k4
  have happ : app (xS x) c = ((xS x).1, (xS x).2.1, (xS x).2.2.1, upI (xS x).2.2.2 (sA (xS x) (c / 6)) (c % 6 - 1)) := by unfold app; rw [if_neg (by omega), if_neg (by omega), if_neg (by omega)]
  have hZ := rI_uS (x := uS x (app (xS x) c)) (s := xS x) (U := Z) w2 (fun a a1 a2 a3 a4 => n1 a a4) (fun p p0 p1 => by
    have := hSW p p0 p1
    rw [happ] at this
    rw [e1, n1 169 (by decide), n1 170 (by decide), n1 171 (by decide)]
    refine ⟨this.1, this.2.1, this.2.2.1, ?_⟩
    by_cases z : p = sA (xS x) (c / 6)
    · rw [z, upI_s]
    · rw [upI_n _ _ z, this.2.2.2]
      show upI (xS x).2.2.2 _ _ p = _
      rw [upI_n _ _ z]; rfl)
  exact Tr_ret ⟨w1, hZ, frM_tr fM (fun a ha => n1 a (by omega)), w4⟩
noncomputable def sOutcome (x : ST) (c : Int) : Int := if chg (xG x) (xS x) c = 1 then vW (xG x) (app (xS x) c) (beg (xG x) (xN x 0)) else -2
theorem chg_01 (G : GM) (s : SL) (c : Int) : chg G s c = 0 ∨ chg G s c = 1 := by
  unfold chg
  by_cases q1 : 0 ≤ c ∧ c < 6 * qR G
  · rw [if_pos q1]
    by_cases q2 : qE G (sA s (c / 6)) = 1
    · rw [if_pos q2]; exact Or.inl rfl
    · rw [if_neg q2]
      by_cases q3 : c % 6 < 2
      · rw [if_pos q3]; exact Or.inr rfl
      · rw [if_neg q3]
        by_cases q4 : c % 6 < 5
        · rw [if_pos q4]
          by_cases q5 : qK G (sA s (c / 6)) < 2 ∧ qW G (sA s (c / 6)) ≠ 2 ∧ sN s (sA s (c / 6)) ≠ c % 6 - 1
          · rw [if_pos q5]; exact Or.inr rfl
          · rw [if_neg q5]; exact Or.inl rfl
        · rw [if_neg q4]
          by_cases q5 : c / 6 + 1 < qR G ∧ qE G (sA s (c / 6 + 1)) = 0
          · rw [if_pos q5]; exact Or.inr rfl
          · rw [if_neg q5]; exact Or.inl rfl
  · rw [if_neg q1]; exact Or.inl rfl
theorem R_outcome {x : ST} {V : ASt} (hG : GOK (xG x)) (hs : SOK (xG x) (xS x)) (h : rI x V) (h0 : 0 ≤ xN x 0) (c : Int) : Tr (f_M_outcome S0 V 142 c) (fun r U => r = sOutcome x c ∧ rI x U ∧ frM V U) := by
  have h' := h
  obtain ⟨b, g1, g2, g3, g4, g5, -⟩ := h
  unfold f_M_outcome sOutcome
  refine Tr_gd O_142 (Tr_bq (R_isChange hG hs h' c) ?_)
  have h01 := chg_01 (xG x) (xS x) c
  refine Tr_if (fun e => ?_) (fun e => ?_)
  · rw [if_neg (by omega)]; exact Tr_ret ⟨rfl, h', fun _ _ => rfl⟩
  · rw [if_pos (by omega), g5.1]
    exact Tr_bnd (R_worthWith hG hs h' (c := c) (by omega) h0) (fun r U hU => Tr_ret ⟨hU.1, hU.2.1, hU.2.2.1⟩)
def chgF (ok : Int → Int) (k : Int) : Nat → Int → Int → Int
  | 0, _, n => if k = -1 then n else -1
  | m + 1, c, n => if ok c = 1 then (if n = k then c else chgF ok k m (c + 1) (n + 1)) else chgF ok k m (c + 1) n
def sChange (x : ST) (k : Int) : Int := chgF (chg (xG x) (xS x)) k (6 * qR (xG x)).toNat 0 0
theorem R_change {x : ST} {V : ASt} (hG : GOK (xG x)) (hs : SOK (xG x) (xS x)) (h : rI x V) (k : Int) : f_M_change S0 V 142 k = some (sChange x k, V) := by
  have h' := h
  obtain ⟨b, g1, -⟩ := h
  have hR := hG.2.2.1
  have hl : ∀ (f : Nat) (c n : Int), 0 ≤ c → c ≤ 6 * qR (xG x) → 6 * qR (xG x) - c < f → 0 ≤ n → n ≤ c → b_M_change_L4 S0 142 k f V n c = some (chgF (chg (xG x) (xS x)) k (6 * qR (xG x) - c).toNat c n, V) := by
    intro f
    induction f with
    | zero => intro c n h1 h2 h3; omega
    | succ f ih =>
      intro c n c0 c1 hf n0 n1
      rw [b_M_change_L4, M_rulesAll g1, bnd_e, w32_id (x := 6 * qR (xG x)) (by omega) (by omega)]
      by_cases d : 6 * qR (xG x) ≤ c
      · rw [if_pos d, show (6 * qR (xG x) - c).toNat = 0 by omega, chgF]
        by_cases e : k = -1
        · rw [if_pos e, if_pos e]
        · rw [if_neg e, if_neg e]
      · rw [if_neg d, show (6 * qR (xG x) - c).toNat = (6 * qR (xG x) - (c + 1)).toNat + 1 by omega, chgF, R_isChange hG hs h', bnd_e, w32_id (x := c + 1) (by omega) (by omega), w32_id (x := n + 1) (by omega) (by omega)]
        have h01 := chg_01 (xG x) (xS x) c
        by_cases e : chg (xG x) (xS x) c = 0
        · rw [if_pos e, if_neg (show ¬ (chg (xG x) (xS x) c = 1) by omega)]
          exact ih (c + 1) n (by omega) (by omega) (by omega) n0 (by omega)
        · rw [if_neg e, if_pos (show chg (xG x) (xS x) c = 1 by omega)]
          by_cases e2 : n = k
          · rw [if_pos e2, if_pos e2]
          · rw [if_neg e2, if_neg e2]
            exact ih (c + 1) (n + 1) (by omega) (by omega) (by omega) (by omega) (by omega)
  unfold f_M_change sChange
  rw [gd_t O_142, hl FU 0 0 (by omega) (by omega) (by rw [FU_v]; omega) (by omega) (by omega), show 6 * qR (xG x) - 0 = 6 * qR (xG x) by omega]
