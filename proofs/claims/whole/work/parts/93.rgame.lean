/-! the reference's statements: all of them, and the whole text -/
theorem R_ruK {T : Int → Int} {n N b k k0 ev : Int} {s : GS} {V : ASt} (hb : b = 0 ∨ b = 1) (hL : lstK T n N) (hX : LX T n V) (h30 : V 142 30 = b) (hB : gmB b s V) (hs : gsO s k0) (hk0 : k0 ≤ k) (hl : s.2.2.2.length < 12) (hev : V 155 (12 * b + s.2.2.2.length) = ev) (hk : 0 ≤ k ∧ k ≤ N) (hr : rKt T n k V) :
    Tr (b_M_rule_0_J75 S0 V 142 (12 * b + s.2.2.2.length)) (fun _ U => fB b V U ∧ SR T n N b (ruK (tkK T n) s ev k) U) := by
  have hkr := kndT_r ((tkK T n).1 k)
  unfold b_M_rule_0_J75
  refine Tr_if (fun h8 => ?_) (fun h8 => ?_)
  · refine Tr_bq (M_kindHere hr h8) ?_
    refine Tr_if (fun c => ?_) (fun c => ?_)
    · refine Tr_bnd (M_blame V 1 (V 142 4)) ?_
      rintro _ U ⟨u1, -, u3, -⟩
      have u3' := u3 (by omega)
      unfold b_M_rule_0_J99
      refine Tr_f (by omega) (Tr_ret ⟨fB_A u1, Or.inr ⟨1, (tkK T n).2.1 k, ?_, by decide, u3'.1, by rw [u3'.2]; exact (rKt_K hr h8).2.1⟩⟩)
      unfold ruK
      rw [if_pos c]
    · have hkN : k < N := K_lt hL hk.2 (by omega) (by omega)
      unfold b_M_rule_0_J99
      rw [F_142_20, F_142_21, F_142_22, F_142_23]
      refine Tr_t (by omega) (Tr_bq (M_kindHere hr h8) ?_)
      rw [A_151, gd_in (by omega) (by omega)]
      refine Tr_set (fun V1 e1 n1 => ?_)
      rw [A_152, gd_in (by omega) (by omega)]
      refine Tr_set (fun V2 e2 n2 => ?_)
      rw [A_153, gd_in (by omega) (by omega)]
      refine Tr_set (fun V3 e3 n3 => ?_)
      rw [A_154, gd_in (by omega) (by omega)]
      refine Tr_set (fun V4 e4 n4 => ?_)
      have g4 : fB b V V4 := fB_tr (fB_s (by decide) (by unfold oB; omega) e1 n1) (fB_tr (fB_s (by decide) (by unfold oB; omega) e2 n2) (fB_tr (fB_s (by decide) (by unfold oB; omega) e3 n3) (fB_s (by decide) (by unfold oB; omega) e4 n4)))
      have B4 : gmB b s V4 := gB_x (gB_x (gB_x (gB_x hB (by decide) e1 n1) (by decide) e2 n2) (by decide) e3 n3) (by decide) e4 n4
      have c4 : V4 142 = V 142 := by rw [n4 142 (by decide), n3 142 (by decide), n2 142 (by decide), n1 142 (by decide)]
      have r4 : rKt T n k V4 := by
        unfold rKt rTk at *
        rw [c4]; exact hr
      have H4 : RH (12 * b + s.2.2.2.length) (kndT ((tkK T n).1 k)) ev (-1) (-1) 0 V4 := by
        refine ⟨?_, ?_, ?_, ?_, ?_⟩
        · rw [n4 151 (by decide), n3 151 (by decide), n2 151 (by decide), e1, upI_s]
        · rw [n4 155 (by decide), n3 155 (by decide), n2 155 (by decide), n1 155 (by decide)]; exact hev
        · rw [n4 152 (by decide), n3 152 (by decide), e2, upI_s]
        · rw [n4 153 (by decide), e3, upI_s]
        · rw [e4, upI_s]
      refine Tr_bnd (M_next (LX_B hX g4) hL ⟨hk.1, hkN⟩ r4 (by rw [c4]; exact h8)) ?_
      rintro _ U ⟨u1, u2⟩
      have gU : fB b V U := fB_tr g4 (fB_A u1)
      have BU := gB_A B4 u1
      have HU := RH_k (U := U) H4 (fun a a1 a2 => u1.1 a (by omega))
      have U30 : U 142 30 = b := by rw [fB_30 gU]; exact h30
      rw [HU.1]
      refine Tr_if (fun d => ?_) (fun d => ?_)
      · refine Tr_mono (R_ruE (k := k + 1) (R := ruK (tkK T n) s ev k) hb hL (LX_B hX gU) U30 BU hs (by omega) hl (Or.inl ⟨HU, ⟨by omega, by omega⟩, u2, ?_⟩)) (fun _ W hW => ⟨fB_tr gU hW.1, hW.2⟩)
        unfold ruK
        rw [if_neg c, if_neg (by omega)]
      · have S1 : St T n N True (k + 1) (ruK (tkK T n) s ev k) (ask (tkK T n) (nsG s) (k + 1) (fun k2 pc => mvE (tkK T n) k2 pc (fun k3 pc wy st => ruE (tkK T n) s (kndT ((tkK T n).1 k)) ev k3 pc wy st))) U := by
          refine Or.inl ⟨trivial, ⟨by omega, by omega⟩, u2, ?_⟩
          unfold ruK
          rw [if_neg c, if_pos (by omega)]
        refine Tr_bnd (R_moves hb hL (LX_B hX gU) U30 BU.2.1 ⟨by omega, by omega⟩ HU.2.2.2.2 S1) ?_
        rintro _ W ⟨w1, k3, pc, wy, st, w2, w3⟩
        have gW : fB b V W := fB_tr gU (fM_B ⟨by omega, by omega⟩ w1)
        refine Tr_mono (R_ruE (k := k3) hb hL (LX_B hX gW) (by rw [fB_30 gW]; exact h30) (gB_M BU w1) hs (by omega) hl (St_P w3 (fun q => ⟨?_, ?_, q⟩))) (fun _ Z hZ => ⟨fB_tr gW hZ.1, hZ.2⟩)
        · rw [w1.1 151 (by decide) (by decide) (by decide) (by decide)]; exact HU.1
        · rw [w1.1 155 (by decide) (by decide) (by decide) (by decide)]; exact HU.2.1
  · obtain ⟨q1, q2, q3⟩ := rKt_h hr h8
    unfold b_M_rule_0_J99
    exact Tr_f (by omega) (Tr_ret ⟨fB_rfl b V, Or.inr ⟨1, (tkK T n).2.1 k, ruK_b (kH_1 q3), by decide, q1, q2⟩⟩)
theorem R_rule0 {T : Int → Int} {n N b k : Int} {s : GS} {V : ASt} (hb : b = 0 ∨ b = 1) (hL : lstK T n N) (hX : LX T n V) (h30 : V 142 30 = b) (hB : gmB b s V) (hs : gsO s k) (hk : 0 ≤ k ∧ k ≤ N) (hr : rKt T n k V) (h8 : V 142 8 = 0) :
    Tr (f_M_rule_0 S0 V 142) (fun _ U => fB b V U ∧ SR T n N b (ruS (tkK T n) s k) U) := by
  have h150 : V 150 b = s.2.2.2.length := hB.2.2.2.2.1
  have hl := hs.2.2.2.2.1
  unfold f_M_rule_0
  rw [gd_t O_142, F_142_19, h30, A_150, gd_in (by omega) (by omega), h150]
  refine Tr_if (fun c => ?_) (fun c => ?_)
  · refine Tr_bnd (M_blame V 5 (V 142 4)) ?_
    rintro _ U ⟨u1, -, u3, -⟩
    have u3' := u3 (by omega)
    unfold b_M_rule_0_J23
    refine Tr_f (by omega) (Tr_ret ⟨fB_A u1, Or.inr ⟨5, (tkK T n).2.1 k, ?_, by decide, u3'.1, by rw [u3'.2]; exact (rKt_K hr h8).2.1⟩⟩)
    unfold ruS
    rw [if_pos (by omega)]
  · unfold b_M_rule_0_J23
    rw [F_142_19, F_142_24, h30, A_150, gd_in (by omega) (by omega), h150, w32_id (x := 12 * b) (by omega) (by omega), w32_id (x := 12 * b + (s.2.2.2.length : Int)) (by omega) (by omega)]
    refine Tr_t (by omega) (Tr_bq (K_word hr h8 4 1702258034 260 (by decide) (by decide) (by decide)) ?_)
    rw [A_155, gd_in (by omega) (by omega), zb_t (by by_cases z : (tkK T n).1 k = 260; exact Or.inr (if_pos z); exact Or.inl (if_neg z))]
    refine Tr_set (fun V1 e1 n1 => ?_)
    have g1 : fB b V V1 := fB_s (by decide) (by unfold oB; omega) e1 n1
    have B1 : gmB b s V1 := gB_x hB (by decide) e1 n1
    have r1 : rKt T n k V1 := by
      unfold rKt rTk at *
      rw [n1 142 (by decide)]; exact hr
    have v8 : V1 142 8 = 0 := by rw [n1 142 (by decide)]; exact h8
    rw [e1, upI_s]
    by_cases d : (tkK T n).1 k = 260
    · rw [if_pos d] at e1 ⊢
      have hkN : k < N := K_lt hL hk.2 (by omega) (by omega)
      refine Tr_f (by decide) (Tr_bnd (M_next (LX_B hX g1) hL ⟨hk.1, hkN⟩ r1 v8) ?_)
      rintro _ U ⟨u1, u2⟩
      have gU : fB b V U := fB_tr g1 (fB_A u1)
      have e : ruS (tkK T n) s k = ruK (tkK T n) s 1 (k + 1) := by unfold ruS; rw [if_neg (by omega), if_pos d]
      rw [e]
      exact Tr_mono (R_ruK (k0 := k) hb hL (LX_B hX gU) (by rw [fB_30 gU]; exact h30) (gB_A B1 u1) hs (by omega) (by omega) (by rw [u1.1 155 (by decide), e1, upI_s]) ⟨by omega, by omega⟩ u2) (fun _ W hW => ⟨fB_tr gU hW.1, hW.2⟩)
    · rw [if_neg d] at e1 ⊢
      have e : ruS (tkK T n) s k = ruK (tkK T n) s 0 k := by unfold ruS; rw [if_neg (by omega), if_neg d]
      rw [e]
      exact Tr_t rfl (Tr_mono (R_ruK (k0 := k) hb hL (LX_B hX g1) (by rw [fB_30 g1]; exact h30) B1 hs (Int.le_refl _) (by omega) (by rw [e1, upI_s]) hk r1) (fun _ W hW => ⟨fB_tr g1 hW.1, hW.2⟩))
theorem R_smt {T : Int → Int} {n N b k : Int} {s : GS} {V : ASt} (hb : b = 0 ∨ b = 1) (hL : lstK T n N) (hX : LX T n V) (h30 : V 142 30 = b) (hB : gmB b s V) (hs : gsO s k) (hk : 0 ≤ k ∧ k ≤ N) (hr : rKt T n k V) (h8 : V 142 8 = 0) :
    Tr (f_M_statement S0 V 142) (fun _ U => fB b V U ∧ SR T n N b (smt (tkK T n) s k) U) := by
  have hW := K_word hr h8
  have fin : ∀ U, fB b V U → SR T n N b (stb (tkK T n) s k) U → Tr (b_M_statement_J68 S0 U 142) (fun _ U => fB b V U ∧ SR T n N b (smt (tkK T n) s k) U) := by
    intro U gU hU
    unfold b_M_statement_J68
    rcases hU with ⟨j, t, e1, e2, e3, e4⟩ | ⟨kd, p, e1, e2, e3, e4⟩
    · have es : smt (tkK T n) s k = tkw (tkK T n) 59 j (fun k3 => Sum.inr (k3, t)) := by unfold smt; rw [e1]; rfl
      refine Tr_if (fun c => ?_) (fun c => ?_)
      · refine Tr_bnd (R_mustS (P := True) (R := smt (tkK T n) s k) (g := fun k3 => Sum.inr (k3, t)) hL (LX_B hX gU) c (Or.inl ⟨trivial, e2, e3, es⟩)) ?_
        rintro _ W ⟨w1, w2⟩
        refine Tr_ret ⟨fB_tr gU (fB_A w1), ?_⟩
        rcases w2 with ⟨-, q1, q2, q3⟩ | q
        · exact Or.inl ⟨_, _, q3, q1, q2, fun _ => gB_A (e4 c) w1⟩
        · exact Or.inr q
      · obtain ⟨q1, q2, q3⟩ := rKt_h e3 c
        exact Tr_ret ⟨gU, Or.inr ⟨1, (tkK T n).2.1 j, by rw [es]; exact tkw_b (by decide) (kH_1 q3), by decide, q1, q2⟩⟩
    · refine Tr_f (by omega) (Tr_ret ⟨gU, Or.inr ⟨kd, p, ?_, e2, e3, e4⟩⟩)
      unfold smt
      rw [e1]; rfl
  unfold f_M_statement
  rw [gd_t O_142]
  refine Tr_bq (hW 1 482804589413 257 (by decide) (by decide) (by decide)) ?_
  by_cases c1 : (tkK T n).1 k = 257
  · rw [if_pos c1]
    have hkN : k < N := K_lt hL hk.2 (by omega) (by omega)
    refine Tr_f (by decide) (Tr_bnd (R_piece hb hL hX h30 hB hs ⟨hk.1, hkN⟩ hr h8) ?_)
    rintro _ U ⟨u1, u2⟩
    exact fin U u1 (by unfold stb; rw [if_pos c1]; exact u2)
  rw [if_neg c1]
  refine Tr_t rfl (Tr_bq (hW 5 495875089259 261 (by decide) (by decide) (by decide)) ?_)
  by_cases c2 : (tkK T n).1 k = 261
  · rw [if_pos c2]
    have hkN : k < N := K_lt hL hk.2 (by omega) (by omega)
    refine Tr_f (by decide) (Tr_bnd (R_stucks hb hL hX h30 hB ⟨hk.1, hkN⟩ hr h8) ?_)
    rintro _ U ⟨u1, u2⟩
    exact fin U u1 (by unfold stb; rw [if_neg c1, if_pos c2]; exact u2)
  rw [if_neg c2]
  have rul : ((tkK T n).1 k = 260 ∨ kndT ((tkK T n).1 k) ≠ -1) → Tr (b_M_statement_J52 S0 V 142) (fun _ U => fB b V U ∧ SR T n N b (smt (tkK T n) s k) U) := by
    intro hc
    unfold b_M_statement_J52
    refine Tr_bnd (R_rule0 hb hL hX h30 hB hs hk hr h8) ?_
    rintro _ U ⟨u1, u2⟩
    exact fin U u1 (by unfold stb; rw [if_neg c1, if_neg c2, if_pos hc]; exact u2)
  refine Tr_t rfl (Tr_bq (hW 4 1702258034 260 (by decide) (by decide) (by decide)) ?_)
  by_cases c3 : (tkK T n).1 k = 260
  · rw [if_pos c3]
    exact Tr_f (by decide) (rul (Or.inl c3))
  rw [if_neg c3]
  refine Tr_t rfl (Tr_bq (M_kindHere hr h8) ?_)
  refine Tr_if (fun c => ?_) (fun c => rul (Or.inr c))
  refine Tr_bnd (M_blame V 1 (V 142 4)) ?_
  rintro _ U ⟨u1, -, u3, -⟩
  have u3' := u3 (by omega)
  refine fin U (fB_A u1) (Or.inr ⟨1, (tkK T n).2.1 k, ?_, by decide, u3'.1, by rw [u3'.2]; exact (rKt_K hr h8).2.1⟩)
  unfold stb
  rw [if_neg c1, if_neg c2, if_neg (fun z => z.elim c3 (fun y => y c))]
/-- the whole text has been read -/
def GE (T : Int → Int) (n b : Int) (c : Int) (R : PR) (U : ASt) : Prop := (∃ m s, R = Sum.inr (m, s) ∧ c = m ∧ U 142 8 = 0 ∧ gmB b s U ∧ gsO s 1800 ∧ U 142 9 = -1) ∨ Flt R U
theorem stb_b {K : TKs} {s : GS} {k : Int} (h : K.1 k = 1) : smt K s k = Sum.inl (1, K.2.1 k) := by
  unfold smt stb
  rw [if_neg (by omega), if_neg (by omega), if_neg (by rw [h]; decide)]; rfl
theorem R_loop {T : Int → Int} {n N b : Int} (hb : b = 0 ∨ b = 1) (hL : lstK T n N) (hnu : ∀ k, (tkK T n).1 k = 3 → 0 ≤ (tkK T n).2.2.2 k ∧ (tkK T n).2.2.2 k ≤ 9999) (hnm : ∀ k, k ≤ N → (tkK T n).1 k = 2 → 0 ≤ k → nmL ((tkK T n).2.2.1 k)) {Q : Int → ASt → Prop} : ∀ (f g : Nat) (c k : Int) (s : GS) (V V0 : ASt), LX T n V → fB b V0 V → V 142 30 = b → (V 142 8 = 0 → gmB b s V) → gsO s k → (0 ≤ k ∧ k ≤ N) → rKt T n k V → N - k + 1 < f → N - k < g → 1 ≤ c → c ≤ k →
    (∀ U c', fB b V0 U → LX T n U → U 142 30 = b → GE T n b c' (gml (tkK T n) g c k s) U → Tr (b_M_game_J107 S0 U 142 c') Q) → Tr (b_M_game_L83 S0 142 f V c) Q := by
  intro f
  induction f with
  | zero => intro g c k s V V0 _ _ _ _ _ hk _ hf; omega
  | succ f ih =>
    intro g c k s V V0 hX hV0 h30 hB hs hk hr hf hg hc1 hck hQ
    obtain ⟨g, rfl⟩ : ∃ g', g = g' + 1 := ⟨g - 1, by omega⟩
    have hn := hX.2.1
    have hNn := hL.2.1
    rw [b_M_game_L83]
    refine Tr_if (fun h8 => ?_) (fun h8 => ?_)
    · have hK := (rKt_K hr h8).2.2
      refine Tr_if (fun h3 => ?_) (fun h3 => ?_)
      · have h0 : (tkK T n).1 k = 0 := by
          rcases hK with ⟨d, _⟩ | ⟨_, d, _⟩ | ⟨_, d, _⟩ | ⟨_, d⟩ | ⟨_, d⟩
          · exact d
          · omega
          · omega
          · omega
          · omega
        refine hQ V c hV0 hX h30 (Or.inl ⟨c, s, ?_, rfl, h8, hB h8, gsO_m hs (by omega), hr.2 h8⟩)
        rw [gml, if_pos h0]
      · have h0 : (tkK T n).1 k ≠ 0 := by
          rcases hK with ⟨_, d⟩ | ⟨d, _⟩ | ⟨d, _⟩ | ⟨d, _⟩ | ⟨d, _⟩
          · exact absurd d h3
          · omega
          · omega
          · unfold sgn at d; omega
          · omega
        have hgm : gml (tkK T n) (g + 1) c k s = pbd (smt (tkK T n) s k) (fun k2 s2 => gml (tkK T n) g (c + 1) k2 s2) := by rw [gml, if_neg h0]
        have hok := (okS_smt (show lsT (tkK T n) N from hL.2.2.2) hnu hnm hk.1 hk.2 hs).2
        refine Tr_bnd (R_smt hb hL hX h30 (hB h8) hs hk hr h8) ?_
        rintro _ U ⟨u1, u2⟩
        rw [w32_id (by omega) (by omega)]
        rcases u2 with ⟨j, t, e1, e2, e3, e4⟩ | ⟨kd, p, e1, e2, e3, e4⟩
        · have ho := hok j t e1
          refine ih g (c + 1) j t U V0 (LX_B hX u1) (fB_tr hV0 u1) (by rw [fB_30 u1]; exact h30) e4 ho.2.2 e2 e3 (by omega) (by omega) (by omega) (by omega) (fun W c' w1 w2 w3 w4 => hQ W c' w1 w2 w3 ?_)
          rw [hgm, e1]; exact w4
        · obtain ⟨f', rfl⟩ : ∃ f', f = f' + 1 := ⟨f - 1, by omega⟩
          rw [b_M_game_L83]
          refine Tr_f (by omega) (hQ U (c + 1) (fB_tr hV0 u1) (LX_B hX u1) (by rw [fB_30 u1]; exact h30) (Or.inr ⟨kd, p, ?_, e2, e3, e4⟩))
          rw [hgm, e1]; rfl
    · obtain ⟨q1, q2, q3⟩ := rKt_h hr h8
      have h1 : (tkK T n).1 k = 1 := kH_1 q3
      refine hQ V c hV0 hX h30 (Or.inr ⟨1, (tkK T n).2.1 k, ?_, by decide, q1, q2⟩)
      rw [gml, if_neg (by omega), stb_b h1]; rfl
