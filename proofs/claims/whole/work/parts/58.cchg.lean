/-! the class's changes and choices -/
theorem Q_is {x : ST} {t : Int} {V : ASt} (h : dIt x t V) : dS (xG x) (xS x) 41 V := h.2.2.2.2.1
theorem D_change {x : ST} {t : Int} {V : ASt} (hG : GOK (xG x)) (hs : SOK (xG x) (xS x)) (h : dIt x t V) (k : Int) : f_SG_change S0 V 0 k = some (sChange x k, V) := by
  obtain ⟨h0, h1, h2, h3, h4, -⟩ := h
  have ha : isSl 41 := Or.inl rfl
  have hR := hG.2.2.1
  have hl : ∀ (f : Nat) (c n : Int), 0 ≤ c → c ≤ 6 * qR (xG x) → 6 * qR (xG x) - c < f → 0 ≤ n → n ≤ c → b_SG_change_L4 S0 0 k f V n c = some (chgF (chg (xG x) (xS x)) k (6 * qR (xG x) - c).toNat c n, V) := by
    intro f
    induction f with
    | zero => intro c n h1 h2 h3; omega
    | succ f ih =>
      intro c n c0 c1 hf n0 n1
      rw [b_SG_change_L4, F_0_4, gd_t O_41, S_codeCount hG ha h4, bnd_e]
      by_cases d : 6 * qR (xG x) ≤ c
      · rw [if_pos d, show (6 * qR (xG x) - c).toNat = 0 by omega, chgF]
        by_cases e : k = -1
        · rw [if_pos e, if_pos e]
        · rw [if_neg e, if_neg e]
      · rw [if_neg d, show (6 * qR (xG x) - c).toNat = (6 * qR (xG x) - (c + 1)).toNat + 1 by omega, chgF, h1.1, S_allows hG hs ha h4 h0 h2.1, bnd_e, w32_id (x := c + 1) (by omega) (by omega), w32_id (x := n + 1) (by omega) (by omega)]
        have h01 := chg_01 (xG x) (xS x) c
        by_cases e : chg (xG x) (xS x) c = 0
        · rw [if_pos e, if_neg (show ¬ (chg (xG x) (xS x) c = 1) by omega)]
          exact ih (c + 1) n (by omega) (by omega) (by omega) n0 (by omega)
        · rw [if_neg e, if_pos (show chg (xG x) (xS x) c = 1 by omega)]
          by_cases e2 : n = k
          · rw [if_pos e2, if_pos e2]
          · rw [if_neg e2, if_neg e2]
            exact ih (c + 1) (n + 1) (by omega) (by omega) (by omega) (by omega) (by omega)
  unfold f_SG_change sChange
  rw [gd_t O_0, hl FU 0 0 (by omega) (by omega) (by rw [FU_v]; omega) (by omega) (by omega), show 6 * qR (xG x) - 0 = 6 * qR (xG x) by omega]
theorem D_outcome {x : ST} {t : Int} {V : ASt} (hG : GOK (xG x)) (hs : SOK (xG x) (xS x)) (hn : SNM (xG x) (xS x)) (h : dIt x t V) (c : Int) : Tr (f_SG_outcome S0 V 0 c) (fun r U => r = sOutcome x c ∧ dIt x t U ∧ frX V U) := by
  have h' := h
  obtain ⟨h0, h1, h2, h3, h4, -⟩ := h
  have ha : isSl 41 := Or.inl rfl
  have h01 := chg_01 (xG x) (xS x) c
  unfold f_SG_outcome sOutcome
  rw [gd_t O_0, h1.1, gd_t (OG h0), h2.1.1]
  refine Tr_if (fun cf => ?_) (fun cf => ?_)
  · have hq := (hG.2.2.2.2.1 cf).2.1
    have : chg (xG x) (xS x) c = 0 := by
      rcases h01 with e | e
      · exact e
      · have := chg_r e; omega
    rw [if_neg (by omega)]; exact Tr_ret ⟨rfl, h', fun _ _ => rfl⟩
  rw [F_0_4, gd_t O_41]
  refine Tr_bq (S_allows hG hs ha h4 h0 h2.1 c) ?_
  refine Tr_if (fun e => ?_) (fun e => ?_)
  · rw [if_neg (by omega)]; exact Tr_ret ⟨rfl, h', fun _ _ => rfl⟩
  have hc1 : chg (xG x) (xS x) c = 1 := by omega
  rw [if_pos hc1]
  refine Tr_bnd (D_worthsOf hG hs hn h' ha (by decide) h4) ?_
  rintro w U ⟨u1, u2⟩
  refine Tr_bq (D_starter u1.1) ?_
  rw [gd_t (OW u1.2.1)]
  refine Tr_bnd (Q_worthBy hG cf u1 (c := c) (Or.inr hc1) (by omega)) ?_
  rintro r W ⟨w1, w2, w3, -⟩
  refine Tr_ret ⟨?_, w2.1, frQ_X h0 (frQ_tr u2 w3)⟩
  rw [w1, beg_m, scS_app hc1]
theorem D_would {x : ST} {t : Int} {V : ASt} (hG : GOK (xG x)) (hs : SOK (xG x) (xS x)) (hn : SNM (xG x) (xS x)) (h : dIt x t V) (h00 : 0 ≤ xN x 0) (hk : (0 ≤ xN x 10 ∧ xN x 10 ≤ 2) ∧ (0 ≤ xN x 11 ∧ xN x 11 ≤ 2)) (pl : Int) : Tr (f_SG_would S0 V 0 pl) (fun r U => r = sWould x pl ∧ dIt x t U ∧ frX V U) := by
  have h' := h
  obtain ⟨h0, h1, h2, h3, h4, -⟩ := h
  have ha : isSl 41 := Or.inl rfl
  unfold f_SG_would sWould f_SG_isPlayer
  rw [gd_t O_0, h1.1, gd_t (OG h0), h2.1.1]
  refine Tr_if (fun cf => ?_) (fun cf => ?_)
  · rw [if_pos (show qF (xG x) = 0 ∨ ¬ (0 ≤ pl ∧ pl ≤ 1) from Or.inl cf)]; exact Tr_ret ⟨rfl, h', fun _ _ => rfl⟩
  by_cases d : 0 ≤ pl ∧ pl ≤ 1
  · rw [if_neg (show ¬ (qF (xG x) = 0 ∨ ¬ (0 ≤ pl ∧ pl ≤ 1)) from fun z => z.elim cf (fun y => y d))]
    have hp : (if pl = 0 then some ((1 : Int), V) else if pl = 1 then some (1, V) else some (0, V)) = some (1, V) := by
      by_cases e : pl = 0
      · rw [if_pos e]
      · rw [if_neg e, if_pos (by omega)]
    refine Tr_bq hp (Tr_f (by decide) ?_)
    rw [F_0_4]
    refine Tr_bnd (D_worthsOf hG hs hn h' ha (by decide) h4) ?_
    rintro w U ⟨u1, u2⟩
    refine Tr_bq (D_starter u1.1) ?_
    have est : w32 (1 - xN x 0 % 2) = (xN x 0 + 1) % 2 := by rw [w32_id (by omega) (by omega)]; omega
    rw [gd_t (OW u1.2.1), F_0_16, est]
    refine Tr_bnd (Q_choiceOf hG cf hk u1 (pl := pl) (st := (xN x 0 + 1) % 2) (by omega) (by omega)) ?_
    rintro r W ⟨w1, w2, w3⟩
    exact Tr_ret ⟨w1, w2.1, frQ_X h0 (frQ_tr u2 w3)⟩
  · rw [if_pos (show qF (xG x) = 0 ∨ ¬ (0 ≤ pl ∧ pl ≤ 1) from Or.inr d)]
    have hp : (if pl = 0 then some ((1 : Int), V) else if pl = 1 then some (1, V) else some (0, V)) = some (0, V) := by rw [if_neg (by omega), if_neg (by omega)]
    refine Tr_bq hp (Tr_t rfl (Tr_ret ⟨rfl, h', fun _ _ => rfl⟩))
