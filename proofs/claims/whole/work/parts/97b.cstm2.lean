/-! the class's statements: pieces, stuck, rules -/
theorem T_16 {T : Int → Int} {n N g k : Int} {s : GS} {R : PR} {V : ASt} (hg : isGm g) (hn : 0 ≤ n) (hL : lstK T n N) (hnm : nmH (nsG s) g V) (hf : V g 0 = s.1) (h2 : V g 2 = s.2.2.2.length) (hs : gsO s 1800) (h : Ct T n N g (gmD g s V ∧ s.2.1.length < 2) k R (tkw (tkK T n) 257 k (fun k0 => frs (tkK T n) (nsG s) k0 (fun k1 ls => tkw (tkK T n) 258 k1 (fun k2 => nmb (tkK T n) 0 (s.1 - 1) k2 (fun k3 v => tkw (tkK T n) 259 k3 (fun k4 => nmb (tkK T n) 0 2 k4 (fun k5 w => Sum.inr (k5, addP s (ls, v, w))))))))) V) :
    Tr (b_Reader_readPiece_J16 S0 V 35) (fun _ U => fD g V U ∧ CRs T n N g R U) := by
  have hgr := gm_r hg
  have hN : lsT (tkK T n) N := hL.2.2.2
  unfold b_Reader_readPiece_J16
  refine Tr_bnd (T_take hg hL (by decide) h) ?_
  rintro _ U ⟨fU, c1⟩
  have nU := nmH_k hg hnm fU
  have ug : U g = V g := fU.1 g (by omega) (by omega) (by omega)
  have hfU : U g 0 = s.1 := by rw [ug]; exact hf
  have h2U : U g 2 = s.2.2.2.length := by rw [ug]; exact h2
  rcases c1 with ⟨⟨⟨hD, hl⟩, ex⟩, hk, hX, b0, b1, b3, b5, hR⟩ | ⟨kd, p, hR, hM⟩
  · have DU := gmD_35 hg hD ex
    refine Tr_bq (C_content hX b3 hk) (Tr_bq (C_type hX b3 hk) ?_)
    have hR' := hR
    unfold frs at hR
    refine Tr_if (fun c => ?_) (fun c => ?_)
    · obtain ⟨q1, q2, -⟩ := kN_nm hn hL hk.1 hk.2 (Or.inl c)
      rw [hX.2.1, gd_t (OG hg), q2]
      refine Tr_bq (C_named hg nU q1) ?_
      rw [if_pos (show (tkK T n).1 (k + 1) = 2 from c)] at hR
      refine Tr_if (fun d => ?_) (fun d => ?_)
      · rw [if_pos (show pixF ((tkK T n).2.2.1 (k + 1)) (nsG s) 0 = -1 from d)] at hR
        refine Tr_mono (T_60 (k := k + 1) (ls := kN T n (k + 1)) (R := R) hg hL hfU h2U hs (Or.inl ⟨⟨fun _ => ⟨rfl, q1⟩, DU, hl⟩, hk, hX, b0, b1, b3, b5, ?_⟩)) (fun _ W hW => ⟨fD_tr (fD_G hg fU) hW.1, hW.2⟩)
        rw [hR]
        show _ = tkw (tkK T n) 2 (k + 1) _
        unfold tkw
        rw [if_pos (show (tkK T n).1 (k + 1) = 2 from c)]
        rfl
      · rw [if_neg (show ¬ pixF ((tkK T n).2.2.1 (k + 1)) (nsG s) 0 = -1 from d)] at hR
        refine Tr_bnd (C_failN hg hX b3 hk b0 (by decide)) ?_
        rintro _ W hW
        have wg : W g = U g := hW.2.1 g (by omega) (by omega) (by omega)
        exact Tr_mono (T_60 (k := k + 1) (ls := kN T n (k + 1)) (R := R) hg hL (by rw [wg]; exact hfU) (by rw [wg]; exact h2U) hs (Or.inr ⟨2, _, hR, hW.1⟩)) (fun _ X hX => ⟨fD_tr (fD_G hg (frG_tr fU hW.2)) hX.1, hX.2⟩)
    · rw [if_neg (show ¬ (tkK T n).1 (k + 1) = 2 from c)] at hR
      refine Tr_mono (T_60 (k := k + 1) (ls := []) (R := R) hg hL hfU h2U hs (Or.inl ⟨⟨fun z => absurd z c, DU, hl⟩, hk, hX, b0, b1, b3, b5, ?_⟩)) (fun _ W hW => ⟨fD_tr (fD_G hg fU) hW.1, hW.2⟩)
      rw [hR]
      unfold tkw
      rw [if_neg (show ¬ (tkK T n).1 (k + 1) = 2 from c)]
  · have hN' : kT T n N = 0 ∨ kT T n N = 1 := hN
    refine Tr_bq (C_content hM.1 hM.2.2.2.2 ⟨hM.1.2.2.2.1, Int.le_refl N⟩) (Tr_bq (FM_type hM) (Tr_f (by omega) ?_))
    exact Tr_mono (T_60 (k := k) (ls := []) (R := R) hg hL hfU h2U hs (Or.inr ⟨kd, p, hR, hM⟩)) (fun _ X hX => ⟨fD_tr (fD_G hg fU) hX.1, hX.2⟩)
/-- the class's reader is at token k, and holds what has been told -/
def CG (T : Int → Int) (n N g k : Int) (s : GS) (V : ASt) : Prop := (0 ≤ k ∧ k ≤ N) ∧ CX T n N g V ∧ V 35 0 = 0 ∧ V 35 1 = -1 ∧ V 35 3 = k ∧ V 35 5 = 0 ∧ gmD g s V ∧ V g 2 = s.2.2.2.length
theorem T_piece {T : Int → Int} {n N g k : Int} {s : GS} {V : ASt} (hg : isGm g) (hn : 0 ≤ n) (hL : lstK T n N) (hs : gsO s k) (hk18 : k ≤ 1800) (h : CG T n N g k s V) (c1 : (tkK T n).1 k = 257) : Tr (f_Reader_readPiece S0 V 35) (fun _ U => fD g V U ∧ CRs T n N g (pcS (tkK T n) s k) U) := by
  have hgr := gm_r hg
  obtain ⟨hk, hX, b0, b1, b3, b5, hD, h2⟩ := h
  have e1 : V g 1 = s.2.1.length := by rw [hD.2.1.1, nsG_l]
  have hl := hs.2.1
  unfold f_Reader_readPiece
  rw [gd_t O_35, hX.2.1, gd_t (OG hg), e1]
  refine Tr_if (fun c => ?_) (fun c => ?_)
  · refine Tr_bnd (C_failN hg hX b3 hk b0 (by decide)) ?_
    rintro _ U hU
    have ug : U g = V g := hU.2.1 g (by omega) (by omega) (by omega)
    refine Tr_mono (T_16 (k := k) hg hn hL (nmH_k hg hD.2.1 hU.2) (by rw [ug]; exact hD.1) (by rw [ug]; exact h2) (gsO_m hs hk18) (Or.inr ⟨5, _, ?_, hU.1⟩)) (fun _ W hW => ⟨fD_tr (fD_G hg hU.2) hW.1, hW.2⟩)
    unfold pcS
    rw [if_pos (by omega)]; rfl
  · refine T_16 (k := k) hg hn hL hD.2.1 hD.1 h2 (gsO_m hs hk18) (Or.inl ⟨⟨hD, by omega⟩, hk, hX, b0, b1, b3, b5, ?_⟩)
    unfold pcS tkw
    rw [if_neg (by omega), if_pos c1]
theorem T_stuck {T : Int → Int} {n N g k : Int} {s : GS} {V : ASt} (hg : isGm g) (hL : lstK T n N) (h : CG T n N g k s V) (c1 : (tkK T n).1 k = 261) : Tr (f_Reader_readStuck S0 V 35) (fun _ U => fD g V U ∧ CRs T n N g (stS (tkK T n) s k) U) := by
  have hgr := gm_r hg
  have hN : lsT (tkK T n) N := hL.2.2.2
  obtain ⟨hk, hX, b0, b1, b3, b5, hD, h2⟩ := h
  unfold f_Reader_readStuck
  rw [gd_t O_35]
  refine Tr_bnd (C_take hg hN hX b3 hk b0 (by decide)) ?_
  rintro _ U (⟨u1, u2, u3, u4, u5⟩ | ⟨u1, -⟩)
  · have v3 : U 35 3 = k + 1 := by rw [u4, upI_s]
    have v0 : U 35 0 = 0 := by rw [u4, upI_n _ _ (by decide)]; exact b0
    have v1 : U 35 1 = -1 := by rw [u4, upI_n _ _ (by decide)]; exact b1
    have v5 : U 35 5 = 0 := by rw [u4, upI_n _ _ (by decide)]; exact b5
    have hk1 : 0 ≤ k + 1 ∧ k + 1 ≤ N := by omega
    have hT := C_type u3 v3 hk1
    have DU := gmD_35 hg hD u5
    have fU : fD g V U := ⟨fun a a1 _ => u5 a a1, by rw [u5 (g + 3) (by omega)]⟩
    have hsr := stkT_r ((tkK T n).1 (k + 1))
    have ok : ∀ x : Int, stkT ((tkK T n).1 (k + 1)) = x → x ≠ -1 → Tr (gd (isO S0 (U 35 4) 1) (wV (aset U (U 35 4) 4 x) (fun W => b_Reader_readStuck_J75 S0 W 35))) (fun _ W => fD g V W ∧ CRs T n N g (stS (tkK T n) s k) W) := by
      intro x hx hx1
      have hkN : k + 1 < N := lt_of_t hN hk1.2 (show (tkK T n).1 (k + 1) ≠ 0 by omega) (show (tkK T n).1 (k + 1) ≠ 1 by omega)
      rw [u3.2.1, gd_t (OG hg)]
      refine Tr_set (fun W aW nW => ?_)
      have w35 : W 35 = U 35 := nW 35 (by omega)
      have XW : CX T n N g W := CX_c u3 (by rw [w35]) (fun a a1 a2 => nW a (by omega)) (by rw [nW (g + 1) (by omega)]; exact u3.2.2.1)
      unfold b_Reader_readStuck_J75
      refine Tr_bnd (C_step XW (by rw [w35]; exact v3) ⟨hk1.1, hkN⟩) ?_
      rintro _ Y ⟨y1, y2⟩
      have yg : Y g = upI (U g) 4 x := by rw [y2 g (by omega), aW]
      have yo : ∀ a, a ≠ 35 → a ≠ g → Y a = U a := fun a a1 a2 => by rw [y2 a a1, nW a a2]
      refine Tr_ret ⟨fD_tr fU ⟨fun a a1 a2 => yo a a1 (by omega), by rw [yo (g + 3) (by omega) (by omega)]⟩, Or.inl ⟨k + 1 + 1, addS s (stkT ((tkK T n).1 (k + 1))), ?_, ⟨by omega, by omega⟩, CX_35 hg XW y2 (by rw [y1, upI_n _ _ (by decide)]), ?_, ?_, ?_, ?_, ?_, ?_⟩⟩
      · unfold stS
        rw [if_neg (by omega)]
      · rw [y1, upI_n _ _ (by decide), w35]; exact v0
      · rw [y1, upI_n _ _ (by decide), w35]; exact v1
      · rw [y1, upI_s]
      · rw [y1, upI_n _ _ (by decide), w35]; exact v5
      · obtain ⟨d1, d2, d3, d4, d5, d6⟩ := DU
        refine ⟨by rw [yg, upI_n _ _ (by decide)]; exact d1, ?_, ?_, by rw [yg, upI_s, hx]; rfl, ?_, ?_⟩
        · show nmH (nsG s) g Y
          unfold nmH at *
          rw [yg, upI_n _ _ (by decide), yo (g + 5) (by omega) (by omega)]
          exact d2
        · intro i hi
          rw [yo (g + 6) (by omega) (by omega), yo (g + 7) (by omega) (by omega)]
          exact d3 i hi
        · show rlD g s.2.2.2 Y
          unfold rlD at *
          rw [yo (g + 8) (by omega) (by omega), yo (g + 9) (by omega) (by omega), yo (g + 10) (by omega) (by omega), yo (g + 11) (by omega) (by omega), yo (g + 12) (by omega) (by omega)]
          exact d5
        · show cdD g s.2.2.2 Y
          unfold cdD at *
          rw [yo (g + 1) (by omega) (by omega), yo (g + 2) (by omega) (by omega), yo (g + 3) (by omega) (by omega)]
          exact d6
      · rw [yg, upI_n _ _ (by decide), u5 g (by omega)]; exact h2
    refine Tr_bq hT (Tr_if (fun c => ok 0 (by unfold stkT; rw [if_pos (show (tkK T n).1 (k + 1) = 262 from c)]) (by decide)) (fun c => ?_))
    refine Tr_bq hT (Tr_if (fun d => ok 1 (by unfold stkT; rw [if_neg (show ¬ (tkK T n).1 (k + 1) = 262 from c), if_pos (show (tkK T n).1 (k + 1) = 263 from d)]) (by decide)) (fun d => ?_))
    refine Tr_bq hT (Tr_if (fun e => ok 2 (by unfold stkT; rw [if_neg (show ¬ (tkK T n).1 (k + 1) = 262 from c), if_neg (show ¬ (tkK T n).1 (k + 1) = 263 from d), if_pos (show (tkK T n).1 (k + 1) = 264 from e)]) (by decide)) (fun e => ?_))
    refine Tr_bnd (C_failN hg u3 v3 hk1 v0 (by decide)) ?_
    rintro _ W hW
    unfold b_Reader_readStuck_J75
    refine Tr_bq (C_stepL hW.1.1 hW.1.2.2.2.2) (Tr_ret ⟨fD_tr fU (fD_G hg hW.2), Or.inr ⟨1, _, ?_, hW.1⟩⟩)
    unfold stS stkT
    rw [if_neg (show ¬ (tkK T n).1 (k + 1) = 262 from c), if_neg (show ¬ (tkK T n).1 (k + 1) = 263 from d), if_neg (show ¬ (tkK T n).1 (k + 1) = 264 from e), if_pos rfl]; rfl
  · exact absurd c1 u1
theorem C_way {T : Int → Int} {n N g k : Int} {V : ASt} (hX : CX T n N g V) (h3 : V 35 3 = k) (hk : 0 ≤ k ∧ k ≤ N) : f_Reader_wayTold S0 V 35 = some (wayT (kT T n k), V) := by
  unfold f_Reader_wayTold wayT
  rw [gd_t O_35, C_type hX h3 hk, bnd_e]
  by_cases a : kT T n k = 267
  · rw [if_pos a, if_pos a]
  rw [if_neg a, if_neg a]
  by_cases b : kT T n k = 268
  · rw [if_pos b, if_pos b]
  rw [if_neg b, if_neg b]
  by_cases c : kT T n k = 269
  · rw [if_pos c, if_pos c]
  · rw [if_neg c, if_neg c]
theorem C_kind {T : Int → Int} {n N g k : Int} {V : ASt} (hX : CX T n N g V) (h3 : V 35 3 = k) (hk : 0 ≤ k ∧ k ≤ N) : f_Reader_kindTold S0 V 35 = some (kndT (kT T n k), V) := by
  unfold f_Reader_kindTold kndT
  rw [gd_t O_35, C_type hX h3 hk, bnd_e]
  by_cases a : kT T n k = 262
  · rw [if_pos a, if_pos a]
  rw [if_neg a, if_neg a]
  by_cases b : kT T n k = 263
  · rw [if_pos b, if_neg (by omega), if_neg (by omega), if_neg (by omega)]
  rw [if_neg b]
  by_cases c : kT T n k = 264
  · rw [if_pos c, if_pos c]
  rw [if_neg c, if_neg c]
  by_cases d : kT T n k = 265
  · rw [if_pos d, if_pos d]
  rw [if_neg d, if_neg d]
  by_cases e : kT T n k = 266
  · rw [if_pos e, if_pos e]
  · rw [if_neg e, if_neg e]
theorem C_setMove {g m y w v : Int} {V : ASt} (hg : isGm g) (hm : 0 ≤ m ∧ m < 12) (h2 : V g 2 = m + 1) : Tr (f_Game_setMoveOfLatest S0 V g y w v) (fun _ U => U (g + 9) = upI (V (g + 9)) m y ∧ U (g + 10) = upI (V (g + 10)) m w ∧ U (g + 11) = upI (V (g + 11)) m v ∧ ∀ a, a ≠ g + 9 → a ≠ g + 10 → a ≠ g + 11 → U a = V a) := by
  unfold f_Game_setMoveOfLatest
  rw [gd_t (OG hg), FG_10 hg, FG_11 hg, FG_12 hg, h2, w32_id (by omega) (by omega), show m + 1 - 1 = m by omega, AG9 hg, gd_in (by omega) (by omega)]
  refine Tr_f (by omega) ?_
  refine Tr_set (fun V1 e1 n1 => ?_)
  rw [n1 g (by omega), h2, w32_id (by omega) (by omega), show m + 1 - 1 = m by omega, AG10 hg, gd_in (by omega) (by omega)]
  refine Tr_set (fun V2 e2 n2 => ?_)
  rw [n2 g (by omega), n1 g (by omega), h2, w32_id (by omega) (by omega), show m + 1 - 1 = m by omega, AG11 hg, gd_in (by omega) (by omega)]
  refine Tr_set (fun V3 e3 n3 => Tr_ret ⟨?_, ?_, ?_, fun a a1 a2 a3 => by rw [n3 a a3, n2 a a2, n1 a a1]⟩)
  · rw [n3 (g + 9) (by omega), n2 (g + 9) (by omega), e1]
  · rw [n3 (g + 10) (by omega), e2, n1 (g + 10) (by omega)]
  · rw [e3, n2 (g + 11) (by omega), n1 (g + 11) (by omega)]
