/-! moves that are played -/
abbrev lgl (G : GM) (s : SL) (p c : Int) : Prop := 0 ≤ c ∧ c / 10 < qP G ∧ c % 10 ≤ qF G ∧ law G s p (c / 10) (c % 10) = 1
theorem cds_iff {G : GM} (hG : GOK G) (s : SL) (p c : Int) : c ∈ cds G s p ↔ lgl G s p c := by
  refine ⟨fun h => ?_, fun h => ?_⟩
  · have := cds_mem h
    exact ⟨this.1, this.2.2.2.1, this.2.2.2.2.2.1, this.2.2.2.2.2.2⟩
  · obtain ⟨a, b, c2, d⟩ := h
    have hP := hG.2.1
    unfold cds
    rw [List.mem_filter]
    refine ⟨?_, ?_⟩
    · rw [List.mem_map]
      exact ⟨c.toNat, by rw [List.mem_range]; omega, by omega⟩
    · unfold okc
      rw [decide_eq_true b, decide_eq_true c2, decide_eq_true d]; rfl
theorem upI_id (f : Int → Int) (k : Int) : upI f k (f k) = f := by
  funext j
  unfold upI
  by_cases h : j = k
  · rw [if_pos h, h]
  · rw [if_neg h]
/-- who has won by a move -/
def enD (G : GM) (s : SL) (p c : Int) : Int := if nxt G s p c = -1 then p % 2 else if nxt G s p c = -2 then 1 - p % 2 else -1
theorem getD_in {l : List Int} {n : Nat} (h : n < l.length) : l.getD n 0 ∈ l := by
  rw [List.getD_eq_getElem?_getD, List.getElem?_eq_getElem h]
  exact List.getElem_mem h
theorem getD_of {l : List Int} {c : Int} (h : c ∈ l) : ∃ n, n < l.length ∧ l.getD n 0 = c := by
  obtain ⟨n, hn, e⟩ := List.getElem_of_mem h
  exact ⟨n, hn, by rw [List.getD_eq_getElem?_getD, List.getElem?_eq_getElem hn]; exact e⟩
theorem Ma_step {G : GM} {s : SL} {m t p : Int} {V : ASt} (hG : GOK G) (hs : SOK G s) (hm : m = 109 ∨ m = 110) (ht : isGm t) (hg : gI G t V) (hM : mvH G s 50 V p) (h0 : V m 0 = p) (hp : 0 ≤ p ∧ p < qPos G) (h1 : 0 ≤ V m 1 ∧ V m 1 ≤ 100000) {c : Int} (hc : 0 ≤ c ∧ c ≤ 255) :
    Tr (f_Match_step S0 V m 50 t c) (fun r U => (V m 2 = -1 ∧ lgl G s p c ∧ r = 1 ∧ U m = upI (upI (upI (V m) 2 (enD G s p c)) 0 (beh G p (c / 10) (c % 10))) 1 (V m 1 + 1) ∧ ∀ a, a ≠ m → U a = V a) ∨ (¬ (V m 2 = -1 ∧ lgl G s p c) ∧ r = 0 ∧ U = V)) := by
  have hq := qPos_le hG
  have hmv : isMv 50 := Or.inl rfl
  have ho : isO S0 m 3 = true := by
    rcases hm with e | e <;> subst e
    · exact O_109
    · exact O_110
  have h12 := nx_12 hG hs p
  unfold f_Match_step
  rw [gd_t ho]
  refine Tr_if (fun e => ?_) (fun e => ?_)
  · rw [gd_t O_50, h0]
    refine Tr_bq (M_countOf hmv ⟨hp.1, by omega⟩ hM) ?_
    have hl : ∀ (n i : Nat), i ≤ (nx G s p).length → (nx G s p).length - i < n → (∀ j, j < i → (cds G s p).getD j 0 ≠ c) → Tr (b_Match_step_L25 S0 m 50 t c (nx G s p).length n V i) (fun r U => (V m 2 = -1 ∧ lgl G s p c ∧ r = 1 ∧ U m = upI (upI (upI (V m) 2 (enD G s p c)) 0 (beh G p (c / 10) (c % 10))) 1 (V m 1 + 1) ∧ ∀ a, a ≠ m → U a = V a) ∨ (¬ (V m 2 = -1 ∧ lgl G s p c) ∧ r = 0 ∧ U = V)) := by
      intro n
      induction n with
      | zero => intro i h1 h2; omega
      | succ n ih =>
        intro i hi hn hno
        rw [b_Match_step_L25]
        refine Tr_if (fun d => ?_) (fun d => ?_)
        · refine Tr_ret (Or.inr ⟨fun z => ?_, rfl, rfl⟩)
          obtain ⟨j, hj, ej⟩ := getD_of ((cds_iff hG s p c).mpr z.2)
          rw [← nx_len] at hj
          exact hno j (by omega) ej
        · have hlen : i < (nx G s p).length := by omega
          rw [gd_t O_50, h0]
          refine Tr_bq (M_codeOf hG hs hmv ⟨hp.1, by omega⟩ hM i) ?_
          rw [if_pos (show (0 : Int) ≤ i ∧ (i : Int) < (nx G s p).length by omega), Int.toNat_natCast]
          refine Tr_if (fun e2 => ?_) (fun e2 => ?_)
          · have hin : lgl G s p c := (cds_iff hG s p c).mp (by rw [← e2]; exact getD_in (by rw [← nx_len]; exact hlen))
            have hnx : (nx G s p).getD i 0 = nxt G s p c := by rw [nx_getD (by rw [← nx_len]; exact hlen), e2]
            have hJ : ∀ W : ASt, (∀ a, a ≠ m → W a = V a) → W m = upI (V m) 2 (enD G s p c) → Tr (b_Match_step_J90 S0 W m t c) (fun r U => (V m 2 = -1 ∧ lgl G s p c ∧ r = 1 ∧ U m = upI (upI (upI (V m) 2 (enD G s p c)) 0 (beh G p (c / 10) (c % 10))) 1 (V m 1 + 1) ∧ ∀ a, a ≠ m → U a = V a) ∨ (¬ (V m 2 = -1 ∧ lgl G s p c) ∧ r = 0 ∧ U = V)) := by
              intro W fW eW
              have htm := ht
              unfold isGm at htm
              have gW : gI G t W := gI_k (fun o a b => fW _ (by omega)) hg
              unfold b_Match_step_J90
              rw [gd_t (OG ht), tdiv_e hc.1, tmod_e hc.1, w32_id (x := c / 10) (by omega) (by omega), eW, upI_n _ _ (by decide), h0]
              obtain ⟨l0, l1, l2, l3⟩ := hin
              refine Tr_bq (G_positionBehind hG ht gW.1 gW.2.1 hp ⟨by omega, l1⟩ ⟨by omega, l2⟩) ?_
              refine Tr_set (fun V1 e1 n1 => ?_)
              have q1 : V1 m 1 = V m 1 := by rw [e1, upI_n _ _ (by decide), eW, upI_n _ _ (by decide)]
              rw [q1, w32_id (by omega) (by omega)]
              refine Tr_set (fun V2 e2 n2 => Tr_ret (Or.inl ⟨e, ⟨l0, l1, l2, l3⟩, rfl, by rw [e2, e1, eW], fun a ha => by rw [n2 a ha, n1 a ha, fW a ha]⟩))
            rw [h0]
            refine Tr_bq (M_nextOf hG hs hmv ⟨hp.1, by omega⟩ hM hlen) ?_
            rw [hnx]
            have hr : nxt G s p c = -1 ∨ nxt G s p c = -2 ∨ 0 ≤ nxt G s p c := by
              have := nx_r hG hp.1 (show (nx G s p).getD i 0 ∈ nx G s p from getD_in hlen)
              rw [hnx] at this; omega
            refine Tr_if (fun e3 => ?_) (fun e3 => ?_)
            · refine hJ V (fun _ _ => rfl) ?_
              unfold enD
              rw [if_neg (by omega), if_neg (by omega), ← e, upI_id]
            · rw [and32_1, w32_id (by omega) (by omega)]
              refine Tr_if (fun e4 => ?_) (fun e4 => ?_)
              · unfold b_Match_step_J87
                rw [gd_t ho]
                refine Tr_set (fun V1 e1 n1 => hJ V1 n1 ?_)
                rw [e1]; unfold enD; rw [if_pos e4]
              · unfold b_Match_step_J87
                rw [gd_t ho]
                refine Tr_set (fun V1 e1 n1 => hJ V1 n1 ?_)
                rw [e1]; unfold enD; rw [if_neg e4, if_pos (by omega)]
          · rw [w32_id (x := (i : Int) + 1) (by omega) (by omega), show (i : Int) + 1 = ((i + 1 : Nat) : Int) by omega]
            refine ih (i + 1) (by omega) (by omega) (fun j hj => ?_)
            by_cases z : j = i
            · rw [z]; exact e2
            · exact hno j (by omega)
    exact hl FU 0 (by omega) (by rw [FU_v]; omega) (fun j hj => by omega)
  · rw [show FU = 99999 + 1 from rfl, b_Match_step_L25]
    exact Tr_t (Int.le_refl _) (Tr_ret (Or.inr ⟨fun z => e z.1, rfl, rfl⟩))
-- ---- move
abbrev mvO (x : ST) (k g : Int) : Prop := qF (xG x) ≠ 0 ∧ (0 ≤ k ∧ k < qP (xG x)) ∧ (0 ≤ g ∧ g ≤ qF (xG x)) ∧ wnr x = -1 ∧ law (xG x) (xS x) (xN x 3) k g = 1
def sMove (x : ST) (k g : Int) : Int := if mvO x k g then 1 else 0
def xMove (x : ST) (k g : Int) : ST := if mvO x k g then uN (uN (uN x 5 (enD (xG x) (xS x) (xN x 3) (10 * k + g))) 3 (beh (xG x) (xN x 3) k g)) 4 (xN x 4 + 1) else xRf x 2
theorem wnr_iff (x : ST) : wnr x = -1 ↔ (xN x 5 = -1 ∧ nx (xG x) (xS x) (xN x 3) ≠ []) := by
  unfold wnr
  by_cases a : xN x 5 = -1
  · rw [if_neg (fun z : xN x 5 ≠ -1 => z a)]
    by_cases b : nx (xG x) (xS x) (xN x 3) = []
    · rw [if_neg (fun z : nx (xG x) (xS x) (xN x 3) ≠ [] => z b)]
      refine ⟨fun h => ?_, fun h => absurd b h.2⟩
      by_cases c : qU (xG x) = 1
      · rw [if_pos c] at h; omega
      · rw [if_neg c] at h
        by_cases d : qU (xG x) = 2
        · rw [if_pos d] at h; omega
        · rw [if_neg d] at h; omega
    · rw [if_pos (show nx (xG x) (xS x) (xN x 3) ≠ [] from b)]
      exact ⟨fun _ => ⟨a, b⟩, fun _ => rfl⟩
  · rw [if_pos (show xN x 5 ≠ -1 from a)]
    exact ⟨fun h => absurd h a, fun h => absurd h.1 a⟩
theorem rI_T {x : ST} {V U : ASt} (h : rI x V) (f : frT V U) : rI x U := rI_fr (fun a ha => f a (by unfold rK at ha; omega) (by unfold rK at ha; omega)) (fun k _ => by rw [f 142 (by decide) (by decide)]) h
theorem R_move {x : ST} {V : ASt} (hG : GOK (xG x)) (hs : SOK (xG x) (xS x)) (h : rI x V) (hp : 0 ≤ xN x 3 ∧ xN x 3 < qPos (xG x)) (h4 : 0 ≤ xN x 4 ∧ xN x 4 ≤ 100000) (hb : ∀ k, 20 ≤ k → k ≤ 25 → 0 ≤ xN x k ∧ xN x k ≤ 100000) (k g : Int) : Tr (f_M_move S0 V 142 k g) (fun r U => r = sMove x k g ∧ rI (xMove x k g) U ∧ frM V U) := by
  have hq := qPos_le hG
  have hF9 := hG.1
  have h' := h
  obtain ⟨b, g1, g2, g3, g4, g5, -⟩ := h
  have bad : ∀ W, rI x W → frM V W → ¬ mvO x k g → Tr (b_M_move_J78 S0 W 142) (fun r U => r = sMove x k g ∧ rI (xMove x k g) U ∧ frM V U) := by
    intro W hW fW hn
    unfold b_M_move_J78 sMove xMove
    rw [if_neg hn, if_neg hn]
    refine Tr_bnd (R_refuses hW (k := 2) (by decide) (hb 22 (by decide) (by decide))) ?_
    rintro r U ⟨u1, u2, u3⟩
    rw [u1]
    exact Tr_t (by decide) (Tr_ret ⟨rfl, u2, frM_tr fW u3⟩)
  have bad0 : ¬ mvO x k g → Tr (b_M_move_J48 S0 V 142 k g 0) (fun r U => r = sMove x k g ∧ rI (xMove x k g) U ∧ frM V U) := by
    intro hn
    unfold b_M_move_J48
    exact Tr_t rfl (bad V h' (fun _ _ => rfl) hn)
  unfold f_M_move
  refine Tr_gd O_142 (Tr_bq (M_hasFields hG g1) ?_)
  by_cases c : qF (xG x) = 0
  · rw [if_pos c]
    exact Tr_t rfl (bad0 (fun z => z.1 c))
  rw [if_neg c]
  refine Tr_f (by decide) ?_
  have hb2 := g1.2.1
  have hP := hG.2.1
  rw [g1.1, F_142_14, A_145, gd_in (by omega) (by omega), g1.2.2.2.1, w32_id (by omega) (by omega)]
  refine Tr_bq (M_is V k 0 _) ?_
  by_cases ck' : ¬ (0 ≤ k ∧ k < qP (xG x))
  · have ck := ck'
    rw [if_neg (show ¬ (0 ≤ k ∧ k ≤ qP (xG x) - 1) by omega)]
    exact Tr_t rfl (bad0 (fun z => ck z.2.1))
  have ck := Decidable.not_not.mp ck'
  rw [if_pos (show 0 ≤ k ∧ k ≤ qP (xG x) - 1 by omega)]
  refine Tr_f (by decide) ?_
  rw [g1.1, F_142_13, A_144, gd_in (by omega) (by omega), g1.2.2.1]
  refine Tr_bq (M_is V g 0 _) ?_
  by_cases cg' : ¬ (0 ≤ g ∧ g ≤ qF (xG x))
  · have cg := cg'
    rw [if_neg cg]
    exact Tr_t rfl (bad0 (fun z => cg z.2.2.1))
  have cg := Decidable.not_not.mp cg'
  rw [if_pos cg]
  refine Tr_f (by decide) ?_
  unfold b_M_move_J48
  refine Tr_f (by decide) ?_
  rw [g5.2.2.2.1]
  refine Tr_bnd (R_wonBy hG hs h' hp) ?_
  rintro r U ⟨u1, u2, u3⟩
  rw [u1]
  refine Tr_if (fun cw => ?_) (fun cw => bad U u2 u3 (fun z => cw z.2.2.2.1))
  have e59 : ∀ W, rI x W → W 142 59 = xN x 3 := fun W hW => by obtain ⟨b', k1, k2, k3, k4, k5, -⟩ := hW; exact k5.2.2.2.1
  rw [e59 U u2]
  have u2' := u2
  obtain ⟨b', k1, k2, k3, k4, k5, -⟩ := u2
  refine Tr_bnd (M_isLawful hG hs k1 k4 k2 hp.1 (by omega) ck.1 ck.2 ⟨cg.1, by omega⟩) ?_
  rintro r2 W ⟨w1, w2⟩
  have hW := rI_T u2' w2
  have fW : frM V W := frM_tr u3 (fun a ha => w2 a (by omega) (by omega))
  rw [w1]
  have hl01 : law (xG x) (xS x) (xN x 3) k g = 0 ∨ law (xG x) (xS x) (xN x 3) k g = 1 := by
    unfold law
    by_cases z : spt (xG x) (xN x 3) k = qF (xG x) ∨ (qO (xG x) k ≠ 2 ∧ qO (xG x) k ≠ xN x 3 % 2)
    · rw [if_pos z]; exact Or.inl rfl
    · rw [if_neg z]; exact lawS_r _ _ _ _ _ _
  refine Tr_if (fun cl => ?_) (fun cl => ?_)
  · exact bad W hW fW (fun z => by have := z.2.2.2.2; omega)
  have hok : mvO x k g := ⟨c, ck, cg, cw, by omega⟩
  rw [e59 W hW]
  have hW' := hW
  obtain ⟨b2, l1, l2, l3, l4, l5, -⟩ := hW
  refine Tr_bnd (M_leads hG hs l1 l4 l2 hp.1 (by omega) ck.1 ck.2 cg) ?_
  rintro r3 Z ⟨z1, z2⟩
  have hZ := rI_T hW' z2
  have fZ : frM V Z := frM_tr fW (fun a ha => z2 a (by omega) (by omega))
  have hnx := nxt_e hG (xS x) (p := xN x 3) (k := k) cg
  have hr := lead_r hG (s := xS x) (p := xN x 3) (k := k) (g := g) hp.1 cg
  rw [z1, e59 Z hZ, tmod_e hp.1, w32_id (by omega) (by omega)]
  have hJ : ∀ v, v = enD (xG x) (xS x) (xN x 3) (10 * k + g) → Tr (b_M_move_J139 S0 Z 142 k g 142 v) (fun r U => r = sMove x k g ∧ rI (xMove x k g) U ∧ frM V U) := by
    intro v hv
    unfold b_M_move_J139 sMove xMove
    rw [if_pos hok, if_pos hok, gd_t O_142]
    refine Tr_set (fun V1 e1 n1 => ?_)
    have hZ' := hZ
    obtain ⟨b3, m1, m2, m3, m4, m5, m6, m7, -⟩ := hZ'
    have gg : rG (xG x) b3 V1 := rG_fr2 (by rw [e1, upI_n _ _ (by decide)]) (fun a a1 a2 => n1 a (by omega)) m1
    have e3 : V1 142 59 = xN x 3 := by rw [e1, upI_n _ _ (by decide)]; exact m5.2.2.2.1
    rw [e3]
    refine Tr_bq (M_behind hG gg hp.1 (by omega) ck.1 ck.2 ⟨cg.1, by omega⟩) ?_
    refine Tr_set (fun V2 e2 n2 => ?_)
    have e4 : V2 142 60 = xN x 4 := by rw [e2, upI_n _ _ (by decide), e1, upI_n _ _ (by decide)]; exact m5.2.2.2.2.1
    rw [e4, w32_id (by omega) (by omega)]
    refine Tr_set (fun V3 e3 n3 => ?_)
    have rest : ∀ a, a ≠ 142 → V3 a = Z a := fun a ha => by rw [n3 a ha, n2 a ha, n1 a ha]
    have em : V3 142 = upI (upI (upI (Z 142) 61 v) 59 (beh (xG x) (xN x 3) k g)) 60 (xN x 4 + 1) := by rw [e3, e2, e1]
    have mm : ∀ j, j ≠ 3 → j ≠ 4 → j ≠ 5 → xN (uN (uN (uN x 5 (enD (xG x) (xS x) (xN x 3) (10 * k + g))) 3 (beh (xG x) (xN x 3) k g)) 4 (xN x 4 + 1)) j = xN x j := fun j j3 j4 j5 => by rw [uN_n _ _ j4, uN_n _ _ j3, uN_n _ _ j5]
    refine Tr_ret ⟨rfl, rI_sc hZ rfl rfl rfl (fun j hj => mm j (by omega) (by omega) (by omega)) (fun a ha _ _ _ => rest a (by unfold rK at ha; omega)) ?_ ?_ ⟨?_, fun j j0 j1 => ?_⟩, frM_tr fZ (fun a ha => rest a (by omega))⟩
    · rw [em, upI_n _ _ (by decide), upI_n _ _ (by decide), upI_n _ _ (by decide)]
    · unfold rSc
      rw [em, mm 0 (by decide) (by decide) (by decide), mm 1 (by decide) (by decide) (by decide), mm 2 (by decide) (by decide) (by decide), mm 6 (by decide) (by decide) (by decide), mm 7 (by decide) (by decide) (by decide), mm 8 (by decide) (by decide) (by decide), mm 9 (by decide) (by decide) (by decide)]
      exact ⟨m5.1, m5.2.1, m5.2.2.1, rfl, rfl, hv, m5.2.2.2.2.2.2.1, m5.2.2.2.2.2.2.2.1, m5.2.2.2.2.2.2.2.2.1, m5.2.2.2.2.2.2.2.2.2⟩
    · rw [rest 173 (by decide), rest 174 (by decide), mm 10 (by decide) (by decide) (by decide), mm 11 (by decide) (by decide) (by decide), mm 12 (by decide) (by decide) (by decide), mm 13 (by decide) (by decide) (by decide)]; exact m6
    · rw [rest 166 (by decide), mm _ (by omega) (by omega) (by omega)]; exact m7 j j0 j1
  refine Tr_if (fun e1 => ?_) (fun e1 => ?_)
  · exact hJ _ (by unfold enD; rw [hnx, if_pos e1])
  refine Tr_if (fun e2 => ?_) (fun e2 => ?_)
  · exact hJ _ (by unfold enD; rw [hnx, if_neg e1, if_pos e2])
  · exact hJ _ (by unfold enD; rw [hnx, if_neg e1, if_neg e2])
theorem cds_0 {G : GM} (hG : GOK G) (h : qF G = 0) (s : SL) (p : Int) : cds G s p = [] := by
  have hP := (hG.2.2.2.2.1 h).1
  refine List.eq_nil_iff_forall_not_mem.mpr (fun c hc => ?_)
  have := cds_mem hc
  omega
/-- the moves of now, whatever the game is -/
theorem D_moves {x : ST} {t : Int} {V : ASt} (hG : GOK (xG x)) (hs : SOK (xG x) (xS x)) (h : dIt x t V) : Tr (f_SG_movesNow S0 V 0) (fun r U => r = 50 ∧ dIt x t U ∧ MA (xG x) (xS x) 50 U ∧ (∀ a, (a < 50 ∨ 61 < a) → a ≠ t + 4 → a ≠ t + 15 → U a = V a)) := by
  have hq := qPos_le hG
  by_cases c : qF (xG x) = 0
  · obtain ⟨e, e0⟩ := D_movesNow0 c h
    refine Tr_eq e ⟨rfl, h, fun p p0 p1 => ?_, fun _ _ _ _ => rfl⟩
    unfold mvH cdH
    rw [cds_0 hG c]
    exact ⟨⟨e0 p p0 (by omega), fun i hi => absurd hi (Nat.not_lt_zero _)⟩, fun i hi => absurd hi (Nat.not_lt_zero _)⟩
  · refine Tr_mono (D_movesNow hG hs c h) ?_
    rintro r U ⟨u1, u2, -, u4, u5⟩
    exact ⟨u1, u2, u4, u5⟩
theorem dIt_ma {x x' : ST} {t : Int} {V U : ASt} (h : dIt x t V) (e1 : x'.1 = x.1) (e2 : x'.2.1 = x.2.1) (e3 : x'.2.2.2 = x.2.2.2) (hn : ∀ k, k ≠ 3 → k ≠ 4 → k ≠ 5 → xN x' k = xN x k) (hf : ∀ a, a ≠ 109 → a ≠ 110 → U a = V a) (hm : dMa x' U) : dIt x' t U := by
  have h' := h
  obtain ⟨h0, h1, h2, h3, h4, h5, h6, h7, h8, h9, h10, h11, h12, h13, h14⟩ := h
  refine dIt_sc h' e1 e2 e3 (fun k hk => hn k (by omega) (by omega) (by omega)) (fun a ha => hf a (by omega) (by omega)) ?_ hm ?_ ?_ ?_
  · unfold dA at *; rw [hf 0 (by decide) (by decide), hn 0 (by decide) (by decide) (by decide)]; exact h1
  · unfold dTp at *
    rw [hf 1 (by decide) (by decide), hf 2 (by decide) (by decide), hn 6 (by decide) (by decide) (by decide)]
    refine ⟨h12.1, fun i i0 i1 => ?_⟩
    have : xT x' i = xT x i := by unfold xT; rw [e3]
    rw [this]; exact h12.2 i i0 i1
  · unfold dIm at *
    rw [hf 113 (by decide) (by decide), hf 114 (by decide) (by decide), hn 9 (by decide) (by decide) (by decide)]
    refine ⟨h13.1, fun i i0 i1 => ?_⟩
    have : xI x' i = xI x i := by unfold xI; rw [e3]
    rw [this]; exact h13.2 i i0 i1
  · unfold dMi at *
    rw [hf 35 (by decide) (by decide), hf 112 (by decide) (by decide), hf 111 (by decide) (by decide), hf 115 (by decide) (by decide), hf 108 (by decide) (by decide), hf 37 (by decide) (by decide), hf 6 (by decide) (by decide), hf 22 (by decide) (by decide), hn 7 (by decide) (by decide) (by decide), hn 8 (by decide) (by decide) (by decide), hn 10 (by decide) (by decide) (by decide), hn 11 (by decide) (by decide) (by decide), hn 12 (by decide) (by decide) (by decide), hn 13 (by decide) (by decide) (by decide)]
    exact ⟨h14.1, h14.2.1, h14.2.2.1, h14.2.2.2.1, h14.2.2.2.2.1, h14.2.2.2.2.2.1, fun j j0 j1 => by rw [hn _ (by omega) (by omega) (by omega)]; exact h14.2.2.2.2.2.2.1 j j0 j1, h14.2.2.2.2.2.2.2⟩
theorem D_move {x : ST} {t : Int} {V : ASt} (hG : GOK (xG x)) (hs : SOK (xG x) (xS x)) (h : dIt x t V) (hp : 0 ≤ xN x 3 ∧ xN x 3 < qPos (xG x)) (h4 : 0 ≤ xN x 4 ∧ xN x 4 ≤ 100000) (hb : ∀ k, 20 ≤ k → k ≤ 25 → 0 ≤ xN x k ∧ xN x k ≤ 100000) (k g : Int) : Tr (f_SG_move S0 V 0 k g) (fun r U => r = sMove x k g ∧ dIt (xMove x k g) t U ∧ frX V U) := by
  have hP := hG.2.1
  have hF9 := hG.1
  have h0 := h.1
  have bad : ∀ W, dIt x t W → frX V W → ¬ mvO x k g → Tr (b_SG_move_J53 S0 W 0) (fun r U => r = sMove x k g ∧ dIt (xMove x k g) t U ∧ frX V U) := by
    intro W hW fW hn
    unfold b_SG_move_J53 sMove xMove
    rw [if_neg hn, if_neg hn]
    exact Tr_bnd (D_refuse hW (k := 2) (by decide) (hb 22 (by decide) (by decide))) (fun r U hU => Tr_ret ⟨rfl, hU.1, frX_tr fW hU.2⟩)
  have bad0 : ¬ mvO x k g → Tr (b_SG_move_J24 S0 V 0 k g 0) (fun r U => r = sMove x k g ∧ dIt (xMove x k g) t U ∧ frX V U) := by
    intro hn
    unfold b_SG_move_J24
    exact Tr_t rfl (bad V h (fun _ _ => rfl) hn)
  unfold f_SG_move
  rw [gd_t O_0]
  refine Tr_if (fun c => bad0 (fun z => by have := z.2.1; omega)) (fun c => ?_)
  refine Tr_if (fun c2 => bad0 (fun z => by have := z.2.1; omega)) (fun c2 => ?_)
  refine Tr_if (fun c3 => bad0 (fun z => by have := z.2.2.1; omega)) (fun c3 => ?_)
  refine Tr_if (fun c4 => bad0 (fun z => by have := z.2.2.1; omega)) (fun c4 => ?_)
  unfold b_SG_move_J24
  refine Tr_f (by decide) ?_
  refine Tr_bnd (D_moves hG hs h) ?_
  rintro r U ⟨u1, u2, u3, u4⟩
  have fX : frX V U := mv_X h0 (fun a a1 a2 a3 => u4 a (by omega) a2 a3)
  have u2' := u2
  obtain ⟨k0, k1, k2, k3, k4, k5, k6, k7, k8, k9, k10, k11, k12, k13, k14⟩ := u2
  rw [u1, F_0_13, gd_t O_109, k1.1, w32_id (x := k * 10) (by omega) (by omega), w32_id (x := k * 10 + g) (by omega) (by omega), show k * 10 + g = 10 * k + g by omega]
  refine Tr_bnd (Ma_step hG hs (Or.inl rfl) k0 k2 (u3 _ hp.1 hp.2) k11.1 hp (by rw [k11.2.1]; exact h4) (c := 10 * k + g) (by omega)) ?_
  have hiff : (U 109 2 = -1 ∧ lgl (xG x) (xS x) (xN x 3) (10 * k + g)) ↔ mvO x k g := by
    show (U 109 2 = -1 ∧ (0 ≤ 10 * k + g ∧ (10 * k + g) / 10 < qP (xG x) ∧ (10 * k + g) % 10 ≤ qF (xG x) ∧ law (xG x) (xS x) (xN x 3) ((10 * k + g) / 10) ((10 * k + g) % 10) = 1)) ↔ (qF (xG x) ≠ 0 ∧ (0 ≤ k ∧ k < qP (xG x)) ∧ (0 ≤ g ∧ g ≤ qF (xG x)) ∧ wnr x = -1 ∧ law (xG x) (xS x) (xN x 3) k g = 1)
    rw [k11.2.2, wnr_iff, show (10 * k + g) / 10 = k by omega, show (10 * k + g) % 10 = g by omega]
    refine ⟨fun z => ⟨fun e => ?_, ⟨by omega, z.2.2.1⟩, ⟨by omega, z.2.2.2.1⟩, ⟨z.1, fun e => ?_⟩, z.2.2.2.2⟩, fun z => ⟨z.2.2.2.1.1, by omega, z.2.1.2, z.2.2.1.2, z.2.2.2.2⟩⟩
    · have := (hG.2.2.2.2.1 e).1
      omega
    · have hin : (10 * k + g) ∈ cds (xG x) (xS x) (xN x 3) := (cds_iff hG _ _ _).mpr ⟨z.2.1, by rw [show (10 * k + g) / 10 = k by omega]; exact z.2.2.1, by rw [show (10 * k + g) % 10 = g by omega]; exact z.2.2.2.1, by rw [show (10 * k + g) / 10 = k by omega, show (10 * k + g) % 10 = g by omega]; exact z.2.2.2.2⟩
      have hl : (nx (xG x) (xS x) (xN x 3)).length = 0 := by rw [e]; rfl
      rw [nx_len, List.length_eq_zero_iff] at hl
      rw [hl] at hin
      exact absurd hin (by simp)
  rintro r2 W (⟨w1, w2, w3, w4, w5⟩ | ⟨w1, w2, w3⟩)
  · have hok := hiff.mp ⟨w1, w2⟩
    rw [w3]
    refine Tr_f (by decide) ?_
    unfold sMove xMove
    rw [if_pos hok, if_pos hok]
    refine Tr_ret ⟨rfl, dIt_ma u2' rfl rfl rfl (fun j j3 j4 j5 => by rw [uN_n _ _ j4, uN_n _ _ j3, uN_n _ _ j5]) (fun a a1 _ => w5 a a1) ?_, frX_tr fX (fun a ha => w5 a (by omega))⟩
    unfold dMa
    rw [w4, uN_s, uN_n _ _ (by decide), uN_s, uN_n _ _ (by decide), uN_n _ _ (by decide), uN_s, show (10 * k + g) / 10 = k by omega, show (10 * k + g) % 10 = g by omega, k11.2.1]
    exact ⟨rfl, rfl, rfl⟩
  · have hno : ¬ mvO x k g := fun z => w1 (hiff.mpr z)
    rw [w2, w3]
    exact Tr_t rfl (bad U u2' fX hno)
