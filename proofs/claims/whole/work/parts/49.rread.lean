/-! the reference's calls that only read -/
theorem Sol_le {m : Int → List Int} {u : Int} {D : Int → Prop} {w t : Int → Int} (hS : Sol m u D w t) (hc : cl m D) (hD : ∀ p, D p → 0 ≤ p ∧ p < 200) : ∀ p, D p → -1 ≤ t p ∧ t p ≤ 200 := by
  have main : ∀ n : Nat, ∀ p, D p → w p ≠ 0 → t p = n → ∀ k : Int, 1 ≤ k → k ≤ n → ∃ q, D q ∧ t q = k := by
    intro n
    induction n with
    | zero => intro p _ _ _ k h1 h2; omega
    | succ n ih =>
      intro p hp hw ht k k1 k2
      by_cases hk : k = t p
      · exact ⟨p, hp, hk.symm⟩
      by_cases hm : m p = []
      · have := ((hS p hp).1 hm).2
        by_cases hu : u = 0
        · rw [if_pos hu] at this; omega
        · rw [if_neg hu] at this; omega
      · rcases (hS p hp).2 hm with ⟨a1, a2, ⟨e, he, a3⟩, a4⟩ | ⟨a1, a2, ⟨e, he, a3⟩, a4⟩ | ⟨a1, -⟩
        · rcases a3 with a3 | a3
          · omega
          · exact ih e (hc p hp e he a3.1) (by omega) (by omega) k k1 (by omega)
        · rcases a3 with a3 | a3
          · omega
          · have := (a4 e he).2 a3.1
            exact ih e (hc p hp e he a3.1) (by omega) (by omega) k k1 (by omega)
        · exact absurd a1 hw
  intro p hp
  have h1 := Sol_t hS hp
  by_cases hw : w p = 0
  · have := h1.2 hw; omega
  · have h0 := h1.1 hw
    have hall := main (t p).toNat p hp hw (by omega)
    have := pigeonI (m := 200) (n := t p) (f := fun i => Classical.epsilon fun q => D q ∧ t q = i + 1) h0 (by decide) (fun i a b => hD _ (Classical.epsilon_spec (hall (i + 1) (by omega) (by omega))).1) (fun i j a b a' b' e => by
      have q1 := (Classical.epsilon_spec (hall (i + 1) (by omega) (by omega))).2
      have q2 := (Classical.epsilon_spec (hall (j + 1) (by omega) (by omega))).2
      have e' : Classical.epsilon (fun q => D q ∧ t q = i + 1) = Classical.epsilon (fun q => D q ∧ t q = j + 1) := e
      rw [e'] at q1
      omega)
    omega
/-- laying, of the state -/
theorem R_lays {x : ST} {V : ASt} (hG : GOK (xG x)) (hs : SOK (xG x) (xS x)) (h : rI x V) {fr : Int} (hf : fr = -1 ∨ (0 ≤ fr ∧ fr < qPos (xG x))) :
    Tr (f_M_lays S0 V 142 fr) (fun _ U => rI x U ∧ frL V U ∧ RM (xG x) (xS x) U ∧ QI (xG x) U ∧ (fr ≠ -1 → wPos U fr) ∧ (fr = -1 → ∀ q, 0 ≤ q → q < qPos (xG x) → wPos U q)) := by
  have hq := qPos_le hG
  obtain ⟨b, g1, g2, g3, g4, g5⟩ := h
  refine Tr_mono (M_lays hG hs g1 g4 g2 hf) ?_
  rintro r U ⟨u1, u2, u3, u4⟩
  refine ⟨rI_fr (fun a ha => u2.1 a (by unfold rK at ha; omega)) (fun k hk => u2.2 k (by unfold rKn at hk; omega)) ⟨b, g1, g2, g3, g4, g5⟩, u2, RM_of hG u1, u1.1, fun e => ⟨by omega, by omega, u3 e⟩, fun e q a c => ⟨a, by omega, u4 e q a c⟩⟩
theorem R_worths {x : ST} {V : ASt} (hG : GOK (xG x)) (h : rI x V) (hR : RM (xG x) (xS x) V) (hQ : QI (xG x) V) :
    Tr (f_M_worths S0 V 142) (fun _ U => rI x U ∧ frW V U ∧ CR (xG x) (xS x) U ∧ (∀ p, wPos V p → wPos U p ∧ U 180 p = vW (xG x) (xS x) p ∧ U 181 p = vT (xG x) (xS x) p)) := by
  obtain ⟨b, g1, g2⟩ := h
  refine Tr_mono (M_worths hG g1 hR hQ) ?_
  rintro r U ⟨u1, u2⟩
  have hc := RM_cl hG hR
  have e8 : U 178 = V 178 := u1 178 (by decide) (by decide)
  have ew : wPos U = wPos V := by funext q; unfold wPos; rw [e8]
  refine ⟨rI_fr (fun a ha => u1 a (by unfold rK at ha; omega) (by unfold rK at ha; omega)) (fun k _ => by rw [u1 142 (by decide) (by decide)]) ⟨b, g1, g2⟩, u1, ⟨RM_fr (fun a a1 a2 => u1 a (by omega) (by omega)) hR, ?_, by rw [ew]; exact u2, fun e he => ?_⟩, fun p hp => ⟨by rw [ew]; exact hp, vW_e hc u2 hp⟩⟩
  · unfold QI at *
    rw [u1 142 (by decide) (by decide), e8, u1 179 (by decide) (by decide)]; exact hQ
  · have := Sol_le u2 hc (fun p hp => ⟨hp.1, hp.2.1⟩) e (by rw [ew] at he; exact he)
    omega
-- ---- answers
def sFault (x : ST) (w : Int) : Int := if w = 0 then xN x 7 else if w = 1 then xN x 8 else -1
theorem R_fault {x : ST} {V : ASt} (h : rI x V) (w : Int) : f_M_fault S0 V 142 w = some (sFault x w, V) := by
  obtain ⟨b, g1, g2, g3, g4, g5, -⟩ := h
  unfold f_M_fault sFault
  rw [gd_t O_142, g5.2.2.2.2.2.2.2.1, g5.2.2.2.2.2.2.2.2.1]
  by_cases c : w = 0
  · rw [if_pos c, if_pos c]
  · rw [if_neg c, if_neg c]
    by_cases c2 : w = 1
    · rw [if_pos c2, if_pos c2]
    · rw [if_neg c2, if_neg c2]
def sStatus (x : ST) (w : Int) : Int := if 0 ≤ w ∧ w ≤ 5 then xN x (20 + w) else -1
theorem R_status {x : ST} {V : ASt} (h : rI x V) (w : Int) : f_M_status S0 V 142 w = some (sStatus x w, V) := by
  obtain ⟨b, g1, g2, g3, g4, g5, g6, g7, -⟩ := h
  unfold f_M_status sStatus
  rw [gd_t O_142, M_is, bnd_e]
  by_cases c : 0 ≤ w ∧ w ≤ 5
  · rw [if_pos c, if_neg (by decide), if_pos c, F_142_41, A_166, gd_in (by omega) (by omega), g7 w c.1 c.2]
  · rw [if_neg c, if_pos rfl, if_neg c]
/-- how many rules are struck -/
def nX (s : SL) : Nat → Int
  | 0 => 0
  | n + 1 => nX s n + sX s n
def sHas (x : ST) (w : Int) : Int := if w = 0 then qF (xG x) else if w = 1 then qP (xG x) else if w = 2 then qR (xG x) else if w = 3 then nX (xS x) (qR (xG x)).toNat else if w = 4 then (if qF (xG x) = 0 then 0 else qPos (xG x)) else if w = 5 then xN x 0 else if w = 6 then xN x 1 else if w = 7 then qU (xG x) else -1
theorem nX_r {G : GM} {s : SL} (hs : SOK G s) : ∀ n : Nat, (n : Int) ≤ qR G → 0 ≤ nX s n ∧ nX s n ≤ n := by
  intro n
  induction n with
  | zero => intro _; exact ⟨Int.le_refl _, Int.le_refl _⟩
  | succ n ih =>
    intro h
    have := ih (by omega)
    have := (hs.2.2 n (by omega) (by omega)).1
    rw [nX]; omega
theorem R_struckAll {x : ST} {V : ASt} (hG : GOK (xG x)) (hs : SOK (xG x) (xS x)) (h : rI x V) : f_M_struckAll S0 V 142 = some (nX (xS x) (qR (xG x)).toNat, V) := by
  obtain ⟨b, g1, g2, g3, g4, -⟩ := h
  have hR := hG.2.2.1
  have hl : ∀ (n k : Nat), (k : Int) ≤ qR (xG x) → qR (xG x) - k < n → b_M_struckAll_L4 S0 142 n V (nX (xS x) k) k = some (nX (xS x) (qR (xG x)).toNat, V) := by
    intro n
    induction n with
    | zero => intro k h1 h2; omega
    | succ n ih =>
      intro k hk hn
      rw [b_M_struckAll_L4, M_rulesAll g1, bnd_e]
      by_cases c : qR (xG x) ≤ (k : Int)
      · rw [if_pos c, show (qR (xG x)).toNat = k by omega]
      · have h2 := (g4 k (by omega) (by omega)).2.1
        have h3 := (hs.2.2 k (by omega) (by omega)).1
        have h4 := nX_r hs k (by omega)
        have ihk := ih (k + 1) (by omega) (by omega)
        rw [nX, show ((k + 1 : Nat) : Int) = (k : Int) + 1 by omega] at ihk
        rw [if_neg c, F_142_45, A_170, gd_in (by omega) (by omega), h2, w32_id (x := (k : Int) + 1) (by omega) (by omega)]
        rcases h3 with e | e
        · rw [if_pos e, w32_id (by omega) (by omega)]
          rw [e] at ihk; exact ihk
        · rw [if_neg (by omega), w32_id (by omega) (by omega)]
          rw [e] at ihk; exact ihk
  unfold f_M_struckAll
  rw [gd_t O_142]
  exact hl FU 0 (by omega) (by rw [FU_v]; omega)
theorem R_has {x : ST} {V : ASt} (hG : GOK (xG x)) (hs : SOK (xG x) (xS x)) (h : rI x V) (w : Int) : f_M_has S0 V 142 w = some (sHas x w, V) := by
  have hst := R_struckAll hG hs h
  obtain ⟨b, g1, g2, g3, g4, g5, -⟩ := h
  have hb := g1.2.1
  unfold f_M_has sHas
  rw [gd_t O_142, F_142_13, F_142_14, F_142_18, A_144, A_145, A_149, g1.1, gd_in (by omega) (by omega), gd_in (by omega) (by omega), gd_in (by omega) (by omega), g1.2.2.1, g1.2.2.2.1, g1.2.2.2.2.1, g5.1, g5.2.1, M_rulesAll g1, bnd_e, hst, bnd_e, M_hasFields hG g1, bnd_e, M_positions hG g1, bnd_e]
  by_cases c0 : w = 0
  · rw [if_pos c0, if_pos c0]
  rw [if_neg c0, if_neg c0]
  by_cases c1 : w = 1
  · rw [if_pos c1, if_pos c1]
  rw [if_neg c1, if_neg c1]
  by_cases c2 : w = 2
  · rw [if_pos c2, if_pos c2]
  rw [if_neg c2, if_neg c2]
  by_cases c3 : w = 3
  · rw [if_pos c3, if_pos c3]
  rw [if_neg c3, if_neg c3]
  by_cases c4 : w = 4
  · rw [if_pos c4, if_pos c4]
    by_cases cf : qF (xG x) = 0
    · rw [if_pos cf, if_pos rfl, if_pos cf]
    · rw [if_neg cf, if_neg (by decide), if_neg cf]
  rw [if_neg c4, if_neg c4]
  by_cases c5 : w = 5
  · rw [if_pos c5, if_pos c5]
  rw [if_neg c5, if_neg c5]
  by_cases c6 : w = 6
  · rw [if_pos c6, if_pos c6]
  rw [if_neg c6, if_neg c6]
  by_cases c7 : w = 7
  · rw [if_pos c7, if_pos c7]
  rw [if_neg c7, if_neg c7]
def sRule (x : ST) (p w : Int) : Int := if 0 ≤ p ∧ p < qR (xG x) then (if w = 0 then sA (xS x) p else if w = 1 then kNow (xG x) (xS x) (sA (xS x) p) else if w = 2 then qI (xG x) (sA (xS x) p) else if w = 3 then qW (xG x) (sA (xS x) p) else if w = 4 then sN (xS x) (sA (xS x) p) else if w = 5 then sX (xS x) (sA (xS x) p) else if w = 6 then qE (xG x) (sA (xS x) p) else -1) else -1
theorem R_rule {x : ST} {V : ASt} (hG : GOK (xG x)) (hs : SOK (xG x) (xS x)) (h : rI x V) (p w : Int) : f_M_rule_II S0 V 142 p w = some (sRule x p w, V) := by
  obtain ⟨b, g1, g2, g3, g4, -⟩ := h
  have hb := g1.2.1
  have hR := hG.2.2.1
  unfold f_M_rule_II sRule
  rw [gd_t O_142, M_rulesAll g1, bnd_e, w32_id (x := qR (xG x) - 1) (by omega) (by omega), M_is, bnd_e]
  by_cases c : 0 ≤ p ∧ p < qR (xG x)
  · have ra := hs.1 p c.1 c.2
    have hr := g4 p c.1 c.2
    have hr2 := g4 (sA (xS x) p) ra.1 ra.2
    have gr := g1.2.2.2.2.2.2.2 (sA (xS x) p) ra.1 ra.2
    have kk := hG.2.2.2.2.2.2.1 (sA (xS x) p) ra.1 ra.2
    have ss := hs.2.2 (sA (xS x) p) ra.1 ra.2
    rw [if_pos (show 0 ≤ p ∧ p ≤ qR (xG x) - 1 by omega), if_neg (by decide), if_pos c, F_142_44, A_169, gd_in (by omega) (by omega), hr.1, M_kindNow hG g1 g4 ra.1 ra.2, bnd_e, M_told g1 ra.1 (by omega), bnd_e, bnd_e, bnd_e, F_142_21, F_142_22, F_142_24, F_142_47, F_142_45, A_152, A_153, A_155, A_172, A_170, gd_in (by omega) (by omega), gd_in (by omega) (by omega), gd_in (by omega) (by omega), gd_in (by omega) (by omega), gd_in (by omega) (by omega), gr.2.1, gr.2.2.1, gr.2.2.2.2, hr2.2.2.2, hr2.2.1]
    by_cases c0 : w = 0
    · rw [if_pos c0, if_pos c0]
    rw [if_neg c0, if_neg c0]
    by_cases c1 : w = 1
    · rw [if_pos c1, if_pos c1]
    rw [if_neg c1, if_neg c1]
    by_cases c2 : w = 2
    · rw [if_pos c2, if_pos c2]
    rw [if_neg c2, if_neg c2]
    by_cases c3 : w = 3
    · rw [if_pos c3, if_pos c3]
    rw [if_neg c3, if_neg c3]
    by_cases c4 : w = 4
    · rw [if_pos c4, if_pos c4]
    rw [if_neg c4, if_neg c4]
    by_cases c5 : w = 5
    · rw [if_pos c5, if_pos c5]
      rcases ss.1 with e | e <;> rw [e] <;> rfl
    rw [if_neg c5, if_neg c5]
    by_cases c6 : w = 6
    · rw [if_pos c6, if_pos c6]
      rcases kk.1 with e | e <;> rw [e] <;> rfl
    rw [if_neg c6, if_neg c6]
  · rw [if_neg (show ¬ (0 ≤ p ∧ p ≤ qR (xG x) - 1) by omega), if_pos rfl, if_neg c]
