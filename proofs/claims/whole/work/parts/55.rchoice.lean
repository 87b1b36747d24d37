/-! the reference: choices -/
theorem vR_R {x : ST} {V : ASt} (hG : GOK (xG x)) (hs : SOK (xG x) (xS x)) (h : rI x V) {c d : Int} (hc : chg (xG x) (xS x) c = 1) (hd : 0 ≤ d) : vR (vW (xG x) (app (xS x) c) (beg (xG x) d)) := by
  obtain ⟨r, U, -, -, -, -, h4⟩ := R_worthWith hG hs h hc hd
  exact h4
theorem M_forPlayer {V : ASt} {pl d w : Int} (hd : 0 ≤ d) (hw : vR w) : f_M_forPlayer S0 V pl d w = some (lk 1 (if pl = d % 2 then 1 else 0) w, V) := by
  unfold vR at hw
  unfold f_M_forPlayer lk
  rw [tmod_e hd, if_neg (show ¬ ((1 : Int) = 2) by decide)]
  by_cases c : d % 2 = pl
  · rw [if_pos c, if_pos (show pl = d % 2 from c.symm), if_pos rfl]
  · rw [if_neg c, if_neg (show ¬ (pl = d % 2) from fun e => c e.symm), if_neg (by decide), w32_id (by omega) (by omega)]
theorem chL_none {ok f : Int → Int} {n : Nat} {c best ch : Int} (h : ¬ (ok c = 1 ∧ best < f c)) : chL ok f (n + 1) c best ch = chL ok f n (c + 1) best ch := by rw [chL, if_neg h]
theorem chL_some {ok f : Int → Int} {n : Nat} {c best ch : Int} (h : ok c = 1 ∧ best < f c) : chL ok f (n + 1) c best ch = chL ok f n (c + 1) (f c) c := by rw [chL, if_pos h]
/-- what a player would change, of the state -/
noncomputable def wdS (x : ST) (pl : Int) : Int := choS (xG x) (xS x) (kdF x pl) (if pl = (xN x 0 + 1) % 2 then 1 else 0) ((xN x 0 + 1) % 2)
theorem R_wouldOf {x : ST} {V : ASt} (hG : GOK (xG x)) (hs : SOK (xG x) (xS x)) (h : rI x V) (h0 : 0 ≤ xN x 0 ∧ xN x 0 ≤ 100000) (hk : (0 ≤ xN x 10 ∧ xN x 10 ≤ 2) ∧ (0 ≤ xN x 11 ∧ xN x 11 ≤ 2)) {pl : Int} (hpl : pl = 0 ∨ pl = 1) :
    Tr (f_M_wouldOf S0 V 142 pl) (fun r U => r = wdS x pl ∧ rI x U ∧ frM V U) := by
  have hR := hG.2.2.1
  have hkd : ∀ W, rI x W → W 173 pl = kdF x pl := fun W hW => by
    obtain ⟨b, g1, g2, g3, g4, g5, g6, -⟩ := hW
    unfold kdF
    rcases hpl with e | e <;> subst e
    · rw [if_neg (by decide)]; exact g6.1
    · rw [if_neg (by decide)]; exact g6.2.1
  have h48 : ∀ W, rI x W → W 142 48 = xN x 0 := fun W hW => by
    obtain ⟨b, g1, g2, g3, g4, g5, -⟩ := hW
    exact g5.1
  have hkr : 0 ≤ kdF x pl ∧ kdF x pl ≤ 2 := by
    unfold kdF
    rcases hpl with e | e <;> subst e
    · rw [if_neg (by decide)]; exact hk.1
    · rw [if_neg (by decide)]; exact hk.2
  have hbm : ∀ s', vW (xG x) s' (beg (xG x) (xN x 0 + 1)) = vW (xG x) s' (beg (xG x) ((xN x 0 + 1) % 2)) := fun s' => by rw [beg_m]
  unfold f_M_wouldOf wdS choS
  rw [gd_t O_142, F_142_49, A_173, gd_in (by omega) (by omega), hkd V h]
  refine Tr_if (fun c => ?_) (fun c => ?_)
  · rw [if_pos c]; exact Tr_ret ⟨rfl, h, fun _ _ => rfl⟩
  rw [if_neg c, h48 V h, w32_id (x := xN x 0 + 1) (by omega) (by omega)]
  refine Tr_bnd (R_worthOn hG hs h (d := xN x 0 + 1) (by omega)) ?_
  rintro r U ⟨u1, u2, u3, u4, -, -⟩
  rw [hkd U u2]
  rw [u1]
  have hst : (xN x 0 + 1) % 2 = 0 ∨ (xN x 0 + 1) % 2 = 1 := by omega
  -- the loop
  have hl : ∀ (f : Nat) (c ch best : Int) (W : ASt), 0 ≤ c → c ≤ 6 * qR (xG x) → 6 * qR (xG x) - c < f → rI x W → frM V W → -1 ≤ best → best ≤ 1 → (kdF x pl = 2 → ch = -1) →
      Tr (b_M_wouldOf_L56 S0 142 pl f W ch best c) (fun r U => r = chL (chg (xG x) (xS x)) (fun c => lk (kdF x pl) (if pl = (xN x 0 + 1) % 2 then 1 else 0) (vW (xG x) (app (xS x) c) (beg (xG x) ((xN x 0 + 1) % 2)))) (6 * qR (xG x) - c).toNat c (if kdF x pl = 2 then 0 else best) ch ∧ rI x U ∧ frM V U) := by
    intro f
    induction f with
    | zero => intro c ch best W h1 h2 h3; omega
    | succ f ih =>
      intro c ch best W c0 c1 hf hW fW b0 b1 hch
      have hW' := hW
      obtain ⟨b, g1, -⟩ := hW
      rw [b_M_wouldOf_L56]
      refine Tr_bq (M_rulesAll g1) ?_
      rw [w32_id (x := 6 * qR (xG x)) (by omega) (by omega)]
      refine Tr_if (fun d => ?_) (fun d => ?_)
      · rw [show (6 * qR (xG x) - c).toNat = 0 by omega, chL]
        exact Tr_ret ⟨rfl, hW', fW⟩
      rw [show (6 * qR (xG x) - c).toNat = (6 * qR (xG x) - (c + 1)).toNat + 1 by omega]
      refine Tr_bq (R_isChange hG hs hW' c) ?_
      have h01 := chg_01 (xG x) (xS x) c
      rw [w32_id (x := c + 1) (by omega) (by omega)]
      refine Tr_if (fun e => ?_) (fun e => ?_)
      · rw [chL_none (fun z => by have := z.1; omega)]
        exact ih (c + 1) ch best W (by omega) (by omega) (by omega) hW' fW b0 b1 hch
      have hch1 : chg (xG x) (xS x) c = 1 := by omega
      rw [h48 W hW', w32_id (x := xN x 0 + 1) (by omega) (by omega)]
      refine Tr_bnd (R_worthWith hG hs hW' hch1 (d := xN x 0 + 1) (by omega)) ?_
      rintro r7 Z ⟨z1, z2, z3, z4⟩
      have fZ : frM V Z := frM_tr fW z3
      rw [z1, F_142_49, A_173, gd_in (by omega) (by omega), hkd Z z2]
      have hlkr := lk_r (kd := kdF x pl) (b := if pl = (xN x 0 + 1) % 2 then 1 else 0) z4
      refine Tr_if (fun k2 => ?_) (fun k2 => ?_)
      · rw [if_pos k2]
        refine Tr_if (fun e0 => ?_) (fun e0 => ?_)
        · have hv1 : lk (kdF x pl) (if pl = (xN x 0 + 1) % 2 then 1 else 0) (vW (xG x) (app (xS x) c) (beg (xG x) ((xN x 0 + 1) % 2))) = 1 := by
            rw [← hbm, e0]; unfold lk; rw [if_pos k2, if_pos rfl]
          rw [chL_some ⟨hch1, by rw [hv1]; decide⟩]
          refine Tr_ret ⟨?_, z2, fZ⟩
          refine (chL_stop _ _ _ _ (by rw [hv1]; exact Int.le_refl _) (fun i hi => ?_)).symm
          have := vR_R hG hs hW' hi (d := xN x 0 + 1) (by omega)
          rw [hbm] at this
          exact (lk_r this).2
        · have hv0 : lk (kdF x pl) (if pl = (xN x 0 + 1) % 2 then 1 else 0) (vW (xG x) (app (xS x) c) (beg (xG x) ((xN x 0 + 1) % 2))) = 0 := by
            rw [← hbm]; unfold lk; rw [if_pos k2, if_neg e0]
          rw [chL_none (fun z => by have := z.2; rw [hv0] at this; omega)]
          have := ih (c + 1) ch best Z (by omega) (by omega) (by omega) z2 fZ b0 b1 hch
          rw [if_pos k2] at this
          exact this
      · have k1 : kdF x pl = 1 := by omega
        rw [if_neg k2, h48 Z z2, w32_id (x := xN x 0 + 1) (by omega) (by omega)]
        have hfp := M_forPlayer (V := Z) (pl := pl) (d := xN x 0 + 1) (by omega) z4
        have elk : lk 1 (if pl = (xN x 0 + 1) % 2 then 1 else 0) (vW (xG x) (app (xS x) c) (beg (xG x) (xN x 0 + 1))) = lk (kdF x pl) (if pl = (xN x 0 + 1) % 2 then 1 else 0) (vW (xG x) (app (xS x) c) (beg (xG x) ((xN x 0 + 1) % 2))) := by rw [k1, hbm]
        rw [elk] at hfp
        refine Tr_bq hfp ?_
        rw [hbm] at hlkr
        refine Tr_if (fun e0 => ?_) (fun e0 => ?_)
        · rw [chL_none (fun z => by have := z.2; omega)]
          have := ih (c + 1) ch best Z (by omega) (by omega) (by omega) z2 fZ b0 b1 hch
          rw [if_neg k2] at this
          exact this
        · rw [h48 Z z2, w32_id (x := xN x 0 + 1) (by omega) (by omega)]
          refine Tr_bq hfp ?_
          rw [chL_some ⟨hch1, by omega⟩]
          have := ih (c + 1) c _ Z (by omega) (by omega) (by omega) z2 fZ hlkr.1 hlkr.2 (fun z => absurd z k2)
          rw [if_neg k2] at this
          exact this
  have hJ : ¬ (kdF x pl = 2 ∧ vW (xG x) (xS x) (beg (xG x) (xN x 0 + 1)) = 0) → Tr (b_M_wouldOf_J38 S0 U 142 pl (vW (xG x) (xS x) (beg (xG x) (xN x 0 + 1)))) (fun r U => r = chL (chg (xG x) (xS x)) (fun c => lk (kdF x pl) (if pl = (xN x 0 + 1) % 2 then 1 else 0) (vW (xG x) (app (xS x) c) (beg (xG x) ((xN x 0 + 1) % 2)))) (6 * qR (xG x)).toNat 0 (lk (kdF x pl) (if pl = (xN x 0 + 1) % 2 then 1 else 0) (vW (xG x) (xS x) (beg (xG x) ((xN x 0 + 1) % 2)))) (-1) ∧ rI x U ∧ frM V U) := by
    intro hno
    unfold b_M_wouldOf_J38
    rw [h48 U u2, w32_id (x := xN x 0 + 1) (by omega) (by omega)]
    refine Tr_bq (M_forPlayer (by omega) u4) ?_
    have hlkr := lk_r (kd := 1) (b := if pl = (xN x 0 + 1) % 2 then 1 else 0) u4
    have := hl FU 0 (-1) _ U (by omega) (by omega) (by rw [FU_v]; omega) u2 u3 hlkr.1 hlkr.2 (fun _ => rfl)
    rw [show 6 * qR (xG x) - 0 = 6 * qR (xG x) by omega] at this
    have eb : (if kdF x pl = 2 then 0 else lk 1 (if pl = (xN x 0 + 1) % 2 then 1 else 0) (vW (xG x) (xS x) (beg (xG x) (xN x 0 + 1)))) = lk (kdF x pl) (if pl = (xN x 0 + 1) % 2 then 1 else 0) (vW (xG x) (xS x) (beg (xG x) ((xN x 0 + 1) % 2))) := by
      rw [← hbm]
      by_cases k2 : kdF x pl = 2
      · rw [if_pos k2]
        unfold lk
        rw [if_pos k2, if_neg (fun z => hno ⟨k2, z⟩)]
      · rw [if_neg k2, show kdF x pl = 1 by omega]
    rw [eb] at this
    exact this
  refine Tr_if (fun k2 => ?_) (fun k2 => ?_)
  · refine Tr_if (fun e0 => ?_) (fun e0 => ?_)
    · refine Tr_ret ⟨?_, u2, u3⟩
      refine (chL_stop _ _ _ _ ?_ (fun i hi => ?_)).symm
      · rw [← hbm, e0]
        unfold lk
        rw [if_pos k2, if_pos rfl]; exact Int.le_refl _
      · have := vR_R hG hs h hi (d := xN x 0 + 1) (by omega)
        rw [hbm] at this
        exact (lk_r this).2
    · exact hJ (fun z => e0 z.2)
  · exact hJ (fun z => k2 z.1)
noncomputable def sWould (x : ST) (pl : Int) : Int := if qF (xG x) = 0 ∨ ¬ (0 ≤ pl ∧ pl ≤ 1) then -2 else wdS x pl
theorem R_would {x : ST} {V : ASt} (hG : GOK (xG x)) (hs : SOK (xG x) (xS x)) (h : rI x V) (h0 : 0 ≤ xN x 0 ∧ xN x 0 ≤ 100000) (hk : (0 ≤ xN x 10 ∧ xN x 10 ≤ 2) ∧ (0 ≤ xN x 11 ∧ xN x 11 ≤ 2)) (pl : Int) : Tr (f_M_would S0 V 142 pl) (fun r U => r = sWould x pl ∧ rI x U ∧ frM V U) := by
  have h' := h
  obtain ⟨b, g1, -⟩ := h
  unfold f_M_would sWould
  refine Tr_gd O_142 (Tr_bq (M_hasFields hG g1) ?_)
  by_cases c : qF (xG x) = 0
  · rw [if_pos c, if_pos (show qF (xG x) = 0 ∨ ¬ (0 ≤ pl ∧ pl ≤ 1) from Or.inl c)]
    exact Tr_t rfl (Tr_ret ⟨rfl, h', fun _ _ => rfl⟩)
  rw [if_neg c]
  refine Tr_f (by decide) (Tr_bq (M_is V pl 0 1) ?_)
  by_cases d : 0 ≤ pl ∧ pl ≤ 1
  · rw [if_pos d, if_neg (show ¬ (qF (xG x) = 0 ∨ ¬ (0 ≤ pl ∧ pl ≤ 1)) from fun z => z.elim c (fun y => y d))]
    refine Tr_f (by decide) (Tr_bnd (R_wouldOf hG hs h' h0 hk (by omega)) (fun r U hU => Tr_ret hU))
  · rw [if_neg d, if_pos (show qF (xG x) = 0 ∨ ¬ (0 ≤ pl ∧ pl ≤ 1) from Or.inr d)]
    exact Tr_t rfl (Tr_ret ⟨rfl, h', fun _ _ => rfl⟩)
/-- the change that the loser makes -/
noncomputable def cbS (x : ST) : Int := if vW (xG x) (xS x) (beg (xG x) (xN x 0)) = 0 then -1 else if vW (xG x) (xS x) (beg (xG x) (xN x 0)) = 1 then wdS x (1 - xN x 0 % 2) else wdS x (xN x 0 % 2)
theorem R_changedBy {x : ST} {V : ASt} (hG : GOK (xG x)) (hs : SOK (xG x) (xS x)) (h : rI x V) (h0 : 0 ≤ xN x 0 ∧ xN x 0 ≤ 100000) (hk : (0 ≤ xN x 10 ∧ xN x 10 ≤ 2) ∧ (0 ≤ xN x 11 ∧ xN x 11 ≤ 2)) : Tr (f_M_changedBy S0 V 142) (fun r U => r = cbS x ∧ rI x U ∧ frM V U) := by
  have h48 : ∀ W, rI x W → W 142 48 = xN x 0 := fun W hW => by
    obtain ⟨b, g1, g2, g3, g4, g5, -⟩ := hW
    exact g5.1
  unfold f_M_changedBy cbS b_M_changedBy_J40
  rw [gd_t O_142, h48 V h]
  refine Tr_bnd (R_worthOn hG hs h h0.1) ?_
  rintro r U ⟨u1, u2, u3, u4, -, -⟩
  rw [u1, h48 U u2, tmod_e h0.1, w32_id (x := 1 - xN x 0 % 2) (by omega) (by omega)]
  refine Tr_if (fun c => ?_) (fun c => ?_)
  · rw [if_pos c]; exact Tr_ret ⟨rfl, u2, u3⟩
  rw [if_neg c]
  refine Tr_if (fun d => ?_) (fun d => ?_)
  · rw [if_pos d, gd_t O_142]
    exact Tr_bnd (R_wouldOf hG hs u2 h0 hk (pl := 1 - xN x 0 % 2) (by omega)) (fun r U hU => Tr_ret ⟨hU.1, hU.2.1, frM_tr u3 hU.2.2⟩)
  · rw [if_neg d, gd_t O_142]
    exact Tr_bnd (R_wouldOf hG hs u2 h0 hk (pl := xN x 0 % 2) (by omega)) (fun r U hU => Tr_ret ⟨hU.1, hU.2.1, frM_tr u3 hU.2.2⟩)
