/-! the reference's changes -/
def uS (x : ST) (s : SL) : ST := (x.1, s, x.2.2)
theorem rI_uS {x : ST} {s : SL} {V U : ASt} (h : rI x V) (hf : ∀ a, a ≠ 169 → a ≠ 170 → a ≠ 171 → a ≠ 172 → U a = V a) (hS : rS (xG x) s U) : rI (uS x s) U := by
  obtain ⟨b, g1, g2, g3, g4, g5, g6, g7, g8, g9, g10, g11⟩ := h
  refine ⟨b, rG_fr (fun a a1 a2 => hf a (by omega) (by omega) (by omega) (by omega)) g1, rT_fr (fun a a1 a2 => hf a (by omega) (by omega) (by omega) (by omega)) g2, ?_, hS, ?_, ?_, ?_, ?_, ?_, ?_, ?_⟩
  · unfold rL at *; rw [hf 146 (by decide) (by decide) (by decide) (by decide)]; exact g3
  · rw [hf 142 (by decide) (by decide) (by decide) (by decide)]; exact g5
  · rw [hf 173 (by decide) (by decide) (by decide) (by decide), hf 174 (by decide) (by decide) (by decide) (by decide)]; exact g6
  · rw [hf 166 (by decide) (by decide) (by decide) (by decide)]; exact g7
  · rw [hf 143 (by decide) (by decide) (by decide) (by decide)]; exact g8
  · rw [hf 197 (by decide) (by decide) (by decide) (by decide)]; exact g9
  · rw [hf 185 (by decide) (by decide) (by decide) (by decide), hf 186 (by decide) (by decide) (by decide) (by decide), hf 187 (by decide) (by decide) (by decide) (by decide), hf 188 (by decide) (by decide) (by decide) (by decide)]; exact g10
  · rw [hf 191 (by decide) (by decide) (by decide) (by decide), hf 192 (by decide) (by decide) (by decide) (by decide), hf 186 (by decide) (by decide) (by decide) (by decide), hf 187 (by decide) (by decide) (by decide) (by decide)]; exact g11
theorem R_isChange {x : ST} {V : ASt} (hG : GOK (xG x)) (hs : SOK (xG x) (xS x)) (h : rI x V) (c : Int) : f_M_isChange S0 V 142 c = some (chg (xG x) (xS x) c, V) := by
  obtain ⟨b, g1, g2, g3, g4, -⟩ := h
  have hR := hG.2.2.1
  have hb := g1.2.1
  unfold f_M_isChange chg
  rw [gd_t O_142, M_hasFields hG g1, bnd_e]
  by_cases cf : qF (xG x) = 0
  · have := (hG.2.2.2.2.1 cf).2.1
    rw [if_pos cf, if_pos rfl, if_neg (by omega)]
  rw [if_neg cf, if_neg (by decide), M_rulesAll g1, bnd_e, w32_id (x := 6 * qR (xG x)) (by omega) (by omega), w32_id (x := 6 * qR (xG x) - 1) (by omega) (by omega), M_is, bnd_e]
  by_cases c1 : 0 ≤ c ∧ c < 6 * qR (xG x)
  · have ra := hs.1 (c / 6) (by omega) (by omega)
    have hr := g4 (c / 6) (by omega) (by omega)
    have hr2 := g4 (sA (xS x) (c / 6)) ra.1 ra.2
    have gr := g1.2.2.2.2.2.2.2 (sA (xS x) (c / 6)) ra.1 ra.2
    have kk := hG.2.2.2.2.2.2.1 (sA (xS x) (c / 6)) ra.1 ra.2
    rw [if_pos (show 0 ≤ c ∧ c ≤ 6 * qR (xG x) - 1 by omega), if_neg (by decide), if_pos c1, tdiv_e c1.1, tmod_e c1.1, w32_id (x := c / 6) (by omega) (by omega), F_142_44, A_169, gd_in (by omega) (by omega), hr.1, M_told g1 ra.1 (by omega), bnd_e, F_142_24, A_155, gd_in (by omega) (by omega), gr.2.2.2.2]
    by_cases e0 : qE (xG x) (sA (xS x) (c / 6)) = 0
    · rw [if_pos e0, if_neg (show ¬ (qE (xG x) (sA (xS x) (c / 6)) = 1) by omega)]
      by_cases d2 : 2 ≤ c % 6
      · rw [if_pos d2, if_neg (show ¬ (c % 6 < 2) by omega)]
        by_cases d5 : 5 ≤ c % 6
        · rw [if_pos d5, if_neg (show ¬ (c % 6 < 5) by omega), M_rulesAll g1, bnd_e, w32_id (x := c / 6 + 1) (by omega) (by omega)]
          by_cases d6 : qR (xG x) ≤ c / 6 + 1
          · rw [if_pos d6, if_neg (by omega)]
          · have rb := hs.1 (c / 6 + 1) (by omega) (by omega)
            have hrb := g4 (c / 6 + 1) (by omega) (by omega)
            have grb := g1.2.2.2.2.2.2.2 (sA (xS x) (c / 6 + 1)) rb.1 rb.2
            rw [if_neg d6, A_169, gd_in (by omega) (by omega), hrb.1, M_told g1 rb.1 (by omega), bnd_e, A_155, gd_in (by omega) (by omega), grb.2.2.2.2]
            by_cases e1 : qE (xG x) (sA (xS x) (c / 6 + 1)) = 0
            · rw [if_pos e1, if_pos ⟨by omega, e1⟩]
            · rw [if_neg e1, if_neg (fun z => e1 z.2)]
        · rw [if_neg d5, if_pos (show c % 6 < 5 by omega), M_told g1 ra.1 (by omega), bnd_e, F_142_20, A_151, gd_in (by omega) (by omega), gr.1]
          by_cases k2 : 2 ≤ qK (xG x) (sA (xS x) (c / 6))
          · rw [if_pos k2, if_neg (fun z => by have := z.1; omega)]
          · rw [if_neg k2, M_told g1 ra.1 (by omega), bnd_e, F_142_22, A_153, gd_in (by omega) (by omega), gr.2.2.1]
            by_cases w2 : qW (xG x) (sA (xS x) (c / 6)) = 2
            · rw [if_pos w2, if_neg (fun z => z.2.1 w2)]
            · rw [if_neg w2, F_142_47, A_172, gd_in (by omega) (by omega), hr2.2.2.2, w32_id (x := c % 6 - 1) (by omega) (by omega)]
              by_cases n2 : sN (xS x) (sA (xS x) (c / 6)) = c % 6 - 1
              · rw [if_pos n2, if_neg (fun z => z.2.2 n2)]
              · rw [if_neg n2, if_pos ⟨by omega, w2, n2⟩]
      · rw [if_neg d2, if_pos (show c % 6 < 2 by omega)]
    · rw [if_neg e0, if_pos (show qE (xG x) (sA (xS x) (c / 6)) = 1 by omega)]
  · rw [if_neg (show ¬ (0 ≤ c ∧ c ≤ 6 * qR (xG x) - 1) by omega), if_pos rfl, if_neg c1]
theorem R_changes {x : ST} {V : ASt} (hG : GOK (xG x)) (hs : SOK (xG x) (xS x)) (h : rI x V) {c : Int} (hc : 0 ≤ c ∧ c < 6 * qR (xG x) ∧ (c % 6 = 5 → c / 6 + 1 < qR (xG x))) :
    Tr (f_M_changes S0 V 142 c) (fun _ U => rI (uS x (app (xS x) c)) U ∧ (∀ a, a ≠ 169 → a ≠ 170 → a ≠ 171 → a ≠ 172 → U a = V a)) := by
  have h' := h
  obtain ⟨b, g1, g2, g3, g4, -⟩ := h
  have hR := hG.2.2.1
  obtain ⟨c0, c1, c5⟩ := hc
  have ra := hs.1 (c / 6) (by omega) (by omega)
  have hr := g4 (c / 6) (by omega) (by omega)
  have hr2 := g4 (sA (xS x) (c / 6)) ra.1 ra.2
  have ss := hs.2.2 (sA (xS x) (c / 6)) ra.1 ra.2
  have hfin : ∀ U : ASt, (∀ a, a ≠ 169 → a ≠ 170 → a ≠ 171 → a ≠ 172 → U a = V a) → rS (xG x) (app (xS x) c) U → (rI (uS x (app (xS x) c)) U ∧ (∀ a, a ≠ 169 → a ≠ 170 → a ≠ 171 → a ≠ 172 → U a = V a)) := fun U f s => ⟨rI_uS h' f s, f⟩
  unfold f_M_changes
  rw [gd_t O_142, tdiv_e c0, tmod_e c0, w32_id (x := c / 6) (by omega) (by omega), F_142_44, A_169, gd_in (by omega) (by omega), hr.1]
  unfold b_M_changes_J43 b_M_changes_J42 b_M_changes_J43 b_M_changes_J69 b_M_changes_J68 b_M_changes_J69 b_M_changes_J91
  by_cases d0 : c % 6 = 0
  · have happ : app (xS x) c = ((xS x).1, upI (xS x).2.1 (sA (xS x) (c / 6)) (1 - sX (xS x) (sA (xS x) (c / 6))), (xS x).2.2.1, (xS x).2.2.2) := by unfold app; rw [if_pos d0]
    have main : ∀ y, y = 1 - sX (xS x) (sA (xS x) (c / 6)) → (y = 0 ∨ y = 1) → ∀ U : ASt, U 170 = upI (V 170) (sA (xS x) (c / 6)) y → (∀ a, a ≠ 170 → U a = V a) → rS (xG x) (app (xS x) c) U := by
      intro y hy _ U u1 u2 p p0 p1
      rw [happ, u2 169 (by decide), u1, u2 171 (by decide), u2 172 (by decide)]
      have := g4 p p0 p1
      refine ⟨this.1, ?_, this.2.2⟩
      show _ = upI (xS x).2.1 _ _ p
      by_cases z : p = sA (xS x) (c / 6)
      · rw [z, upI_s, upI_s, hy]
      · rw [upI_n _ _ z, upI_n _ _ z]; exact this.2.1
    rw [if_pos d0, F_142_45, A_170, gd_in (by omega) (by omega), hr2.2.1]
    refine Tr_if (fun e => ?_) (fun e => ?_)
    · rw [gd_in (by omega) (by omega), gd_t (show zb 1 = true by rfl)]
      refine Tr_set (fun V1 e1 n1 => ?_)
      rw [if_neg (by omega), if_pos (by omega), if_neg (by omega)]
      exact Tr_ret (hfin V1 (fun a _ a2 _ _ => n1 a a2) (main 1 (by omega) (Or.inr rfl) V1 e1 n1))
    · rw [gd_in (by omega) (by omega), gd_t (show zb 0 = true by rfl)]
      refine Tr_set (fun V1 e1 n1 => ?_)
      rw [if_neg (by omega), if_pos (by omega), if_neg (by omega)]
      exact Tr_ret (hfin V1 (fun a _ a2 _ _ => n1 a a2) (main 0 (by omega) (Or.inl rfl) V1 e1 n1))
  rw [if_neg d0]
  by_cases d1 : c % 6 = 1
  · have happ : app (xS x) c = ((xS x).1, (xS x).2.1, upI (xS x).2.2.1 (sA (xS x) (c / 6)) (1 - sT (xS x) (sA (xS x) (c / 6))), (xS x).2.2.2) := by unfold app; rw [if_neg d0, if_pos d1]
    have main : ∀ y, y = 1 - sT (xS x) (sA (xS x) (c / 6)) → ∀ U : ASt, U 171 = upI (V 171) (sA (xS x) (c / 6)) y → (∀ a, a ≠ 171 → U a = V a) → rS (xG x) (app (xS x) c) U := by
      intro y hy U u1 u2 p p0 p1
      rw [happ, u2 169 (by decide), u1, u2 170 (by decide), u2 172 (by decide)]
      have := g4 p p0 p1
      refine ⟨this.1, this.2.1, ?_, this.2.2.2⟩
      show _ = upI (xS x).2.2.1 _ _ p
      by_cases z : p = sA (xS x) (c / 6)
      · rw [z, upI_s, upI_s, hy]
      · rw [upI_n _ _ z, upI_n _ _ z]; exact this.2.2.1
    rw [if_pos d1, F_142_46, A_171, gd_in (by omega) (by omega), hr2.2.2.1]
    refine Tr_if (fun e => ?_) (fun e => ?_)
    · rw [gd_in (by omega) (by omega), gd_t (show zb 1 = true by rfl)]
      refine Tr_set (fun V1 e1 n1 => ?_)
      rw [if_pos (by omega), if_neg (by omega)]
      exact Tr_ret (hfin V1 (fun a _ _ a3 _ => n1 a a3) (main 1 (by omega) V1 e1 n1))
    · rw [gd_in (by omega) (by omega), gd_t (show zb 0 = true by rfl)]
      refine Tr_set (fun V1 e1 n1 => ?_)
      rw [if_pos (by omega), if_neg (by omega)]
      exact Tr_ret (hfin V1 (fun a _ _ a3 _ => n1 a a3) (main 0 (by omega) V1 e1 n1))
  rw [if_neg d1, if_neg (show ¬ (c % 6 ≤ 1) by omega)]
  by_cases d5 : c % 6 = 5
  · have c6 := c5 d5
    have hrb := g4 (c / 6 + 1) (by omega) (by omega)
    have happ : app (xS x) c = (upI (upI (xS x).1 (c / 6) (sA (xS x) (c / 6 + 1))) (c / 6 + 1) (sA (xS x) (c / 6)), (xS x).2.1, (xS x).2.2.1, (xS x).2.2.2) := by unfold app; rw [if_neg d0, if_neg d1, if_pos d5]
    rw [if_pos (show 5 ≤ c % 6 by omega), if_pos d5, w32_id (x := c / 6 + 1) (by omega) (by omega), F_142_44, A_169, gd_in (by omega) (by omega), A_169, gd_in (by omega) (by omega), hrb.1]
    refine Tr_set (fun V1 e1 n1 => ?_)
    refine Tr_set (fun V2 e2 n2 => ?_)
    refine Tr_ret (hfin V2 (fun a a1 _ _ _ => by rw [n2 a a1, n1 a a1]) (fun p p0 p1 => ?_))
    rw [happ, e2, e1, n2 170 (by decide), n1 170 (by decide), n2 171 (by decide), n1 171 (by decide), n2 172 (by decide), n1 172 (by decide)]
    have := g4 p p0 p1
    refine ⟨?_, this.2⟩
    show _ = upI (upI (xS x).1 _ _) _ _ p
    by_cases z : p = c / 6 + 1
    · rw [z, upI_s, upI_s]
    · rw [upI_n _ _ z, upI_n _ _ z]
      by_cases z2 : p = c / 6
      · rw [z2, upI_s, upI_s]
      · rw [upI_n _ _ z2, upI_n _ _ z2]; exact this.1
  · have happ : app (xS x) c = ((xS x).1, (xS x).2.1, (xS x).2.2.1, upI (xS x).2.2.2 (sA (xS x) (c / 6)) (c % 6 - 1)) := by unfold app; rw [if_neg d0, if_neg d1, if_neg d5]
    rw [if_neg (show ¬ (5 ≤ c % 6) by omega), F_142_47, A_172, gd_in (by omega) (by omega), w32_id (x := c % 6 - 1) (by omega) (by omega)]
    refine Tr_set (fun V1 e1 n1 => ?_)
    rw [if_neg d5]
    refine Tr_ret (hfin V1 (fun a _ _ _ a4 => n1 a a4) (fun p p0 p1 => ?_))
    rw [happ, e1, n1 169 (by decide), n1 170 (by decide), n1 171 (by decide)]
    have := g4 p p0 p1
    refine ⟨this.1, this.2.1, this.2.2.1, ?_⟩
    show _ = upI (xS x).2.2.2 _ _ p
    by_cases z : p = sA (xS x) (c / 6)
    · rw [z, upI_s, upI_s]
    · rw [upI_n _ _ z, upI_n _ _ z]; exact this.2.2.2
