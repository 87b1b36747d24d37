/-! parts and pairs; all of the class's grammar -/
theorem pixF_r (ls : List Int) : ∀ (r : List (List Int)) (i : Int), pixF ls r i = -1 ∨ (i ≤ pixF ls r i ∧ pixF ls r i < i + r.length) := by
  intro r
  induction r with
  | nil => intro i; exact Or.inl rfl
  | cons w r ih =>
    intro i
    rw [pixF, List.length_cons]
    by_cases c : w = ls
    · rw [if_pos c]; exact Or.inr (by omega)
    · rw [if_neg c]
      rcases ih (i + 1) with z | z
      · exact Or.inl z
      · exact Or.inr (by omega)
theorem C_named {ns : List (List Int)} {ls : List Int} {g : Int} {V : ASt} (hg : isGm g) (h : nmH ns g V) (hl : nmL ls) : f_Game_pieceNamed S0 V g (nm32 ls 33554432) = some (pixF ls ns 0, V) := by
  unfold f_Game_pieceNamed
  rw [gd_t (OG hg)]
  have hlp : ∀ (f j : Nat), j ≤ ns.length → ns.length - j < f → b_Game_pieceNamed_L2 S0 g (nm32 ls 33554432) f V (j : Int) = some (pixF ls (ns.drop j) (j : Int), V) := by
    intro f
    induction f with
    | zero => intro j h1 h2; omega
    | succ f ih =>
      intro j h1 h2
      have h2' := h.2.1
      rw [b_Game_pieceNamed_L2, h.1]
      by_cases c : (ns.length : Int) ≤ j
      · rw [if_pos c, List.drop_eq_nil_of_le (by omega), pixF]
      · have hj : j < ns.length := by omega
        have hnj := h.2.2 j hj
        have hgj : ns.getD j [] = ns[j] := by rw [List.getD_eq_getElem?_getD, List.getElem?_eq_getElem hj]; rfl
        rw [hgj] at hnj
        rw [if_neg c, FG_6 hg, AG5 hg, gd_in (by omega) (by omega), hnj.1, List.drop_eq_getElem_cons hj, pixF]
        by_cases d : ns[j] = ls
        · rw [if_pos d, if_pos (by rw [d])]
        · rw [if_neg d, if_neg (fun z => d (nm32_i hnj.2 hl z)), w32_id (x := (j : Int) + 1) (by omega) (by omega), show (j : Int) + 1 = ((j + 1 : Nat) : Int) by omega]
          exact ih (j + 1) (by omega) (by omega)
  have := hlp FU 0 (by omega) (by have := h.2.1; rw [FU_v]; omega)
  rw [List.drop_zero] at this
  exact this
theorem C_named0 {ns : List (List Int)} {g c : Int} {V : ASt} (hg : isGm g) (h : nmH ns g V) : ∃ y, f_Game_pieceNamed S0 V g c = some (y, V) := by
  unfold f_Game_pieceNamed
  rw [gd_t (OG hg)]
  have hlp : ∀ (f j : Nat), j ≤ ns.length → ns.length - j < f → ∃ y, b_Game_pieceNamed_L2 S0 g c f V (j : Int) = some (y, V) := by
    intro f
    induction f with
    | zero => intro j h1 h2; omega
    | succ f ih =>
      intro j h1 h2
      have h2' := h.2.1
      rw [b_Game_pieceNamed_L2, h.1]
      by_cases q : (ns.length : Int) ≤ j
      · rw [if_pos q]; exact ⟨_, rfl⟩
      · rw [if_neg q, FG_6 hg, AG5 hg, gd_in (by omega) (by omega)]
        by_cases d : V (g + 5) (j : Int) = c
        · rw [if_pos d]; exact ⟨_, rfl⟩
        · rw [if_neg d, w32_id (x := (j : Int) + 1) (by omega) (by omega), show (j : Int) + 1 = ((j + 1 : Nat) : Int) by omega]
          exact ih (j + 1) (by omega) (by omega)
  exact hlp FU 0 (by omega) (by have := h.2.1; rw [FU_v]; omega)
/-- words of tokens are names -/
theorem kN_nm {T : Int → Int} {n N k : Int} (hn : 0 ≤ n) (hL : lstK T n N) (h0 : 0 ≤ k) (h1 : k ≤ N) (ht : kT T n k = 2 ∨ 256 ≤ kT T n k) : nmL (kN T n k) ∧ kC T n k = nm32 (kN T n k) 33554432 ∧ kT T n k = ownT (kN T n k) := by
  have he := eK_n hn hL h0 h1
  have ha := pA_r (T := T) (show 0 ≤ eK T n k.toNat by omega) he.2
  have h8 := tk_c8 T n (eK T n k.toNat)
  unfold kT kC kN at *
  unfold tkN
  rcases h8 with ⟨c, h1, -⟩ | ⟨c, hor, j, h1, -⟩ | ⟨c, cl, j, y, h1, -⟩ | ⟨c, cl, j, y, h1, h2, h3, hc⟩ | ⟨c, cl, cd, j, y, h1, -⟩ | ⟨c, cl, cd, j, y, h1, -⟩ | ⟨c, cl, cd, q, -⟩
  · omega
  · omega
  · omega
  · exact ⟨(wE_n (by omega) c cl).2.2 (by omega), hc, h1⟩
  · omega
  · omega
  · rcases q with ⟨q, q2⟩ | ⟨q, q2⟩
    · unfold sgn at q; omega
    · omega
theorem kV_c {T : Int → Int} {n k : Int} (ht : kT T n k = 3) : kC T n k = kV T n k := by
  unfold kT at ht
  unfold kC kV tkC
  rw [ht, if_neg (by decide), if_pos rfl]
theorem CL_part {T : Int → Int} {n N g : Int} {ns : List (List Int)} {m : Nat} (hg : isGm g) (hn : 0 ≤ n) (hL : lstK T n N) (i6 : CLf T n N g ns m 6 4) (i12 : CLp T n N g ns m 12 (-7)) (i13 : CLp T n N g ns m 13 (-8)) : CLf T n N g ns (m + 1) 10 6 := by
  have hN : lsT (tkK T n) N := hL.2.2.2
  have hgr := gm_r hg
  intro k o u V h hu h9
  have h' := h
  have hk := h.1
  have ho := h.2.1
  have hX := h.2.2.1
  have h4 := hX.2.1
  have h0 := h.2.2.2.1
  have h3 := h.2.2.2.2.1
  have hl := h.2.2.2.2.2.2.1
  have hnm := h.2.2.2.2.2.2.2
  have hNN := hX.2.2.2
  obtain ⟨u', eu⟩ : ∃ u', u = u' + 1 := ⟨u - 1, by unfold nee at hu; omega⟩
  subst eu
  have e : ps (tkK T n) ns (m + 1) 10 k o = (if kT T n k = 40 then (if o = 8 then flR (tkK T n) 5 k else sqR (ps (tkK T n) ns m 6 (k + 1) (o + 1)) (fun k => if kT T n k = 41 then okR (k + 1) [] else flR (tkK T n) 1 k))
      else if kT T n k = 3 then okR (k + 1) [(0, kV T n k)] else if kT T n k = 274 then okR (k + 1) [(1, 0)] else if kT T n k = 275 then okR (k + 1) [(2, 0)] else if kT T n k = 276 then okR (k + 1) [(3, 0)]
      else if kT T n k = 277 then ps (tkK T n) ns m 12 (k + 1) o else if kT T n k = 278 then ps (tkK T n) ns m 13 (k + 1) o
      else if kT T n k = 2 then (if pixF (kN T n k) ns 0 = -1 then flR (tkK T n) 3 k else okR (k + 1) [(4 + pixF (kN T n k) ns 0, 0)]) else flR (tkK T n) 1 k) := rfl
  rw [e] at h9 ⊢
  have one : ∀ (c : Int × Int) (v : Int), v = cmw c → (kT T n k ≠ 0 ∧ kT T n k ≠ 1) → Tr (gd (isO S0 (aF S0 g 5) 8) (bnd (f_Tests_emit S0 V (aF S0 g 5) v) (fun _ V20 => bnd (f_Reader_step S0 V20 35) (fun _ V24 => some ((0 : Int), V24))))) (fun _ U => PST T n N g (okR (k + 1) [c]) V U) := by
    intro c v hv ht
    have hkN : k < N := lt_of_t hN hk.2 ht.1 ht.2
    rw [hv, (O_g5 hg).1, gd_t (O_g5 hg).2]
    refine Tr_bnd (C_emitN hg hX (by omega) c) ?_
    rintro _ U ⟨u1, u2, u3, u4⟩
    refine Tr_bnd (C_step u1 (by rw [u2]; exact h3) ⟨hk.1, hkN⟩) ?_
    rintro _ W ⟨e1, f1⟩
    exact Tr_ret (PST_one hg h' u1 u2 u3 u4 e1 f1)
  show Tr (f_Reader_readPart S0 (f_RD S0 u') V 35) _
  unfold f_Reader_readPart
  rw [gd_t O_35]
  refine Tr_bq (C_type hX h3 hk) ?_
  by_cases c2 : kT T n k = 2
  · rw [if_neg (show ¬ (kT T n k = 40) by omega), if_neg (show ¬ (kT T n k = 3) by omega), if_neg (show ¬ (kT T n k = 274) by omega), if_neg (show ¬ (kT T n k = 275) by omega), if_neg (show ¬ (kT T n k = 276) by omega), if_neg (show ¬ (kT T n k = 277) by omega), if_neg (show ¬ (kT T n k = 278) by omega)] at h9
    have er : ∀ A B C D E F G H : R3, (if kT T n k = 40 then A else if kT T n k = 3 then B else if kT T n k = 274 then C else if kT T n k = 275 then D else if kT T n k = 276 then E else if kT T n k = 277 then F else if kT T n k = 278 then G else H) = H := fun A B C D E F G H => by
      rw [if_neg (show ¬ (kT T n k = 40) by omega), if_neg (show ¬ (kT T n k = 3) by omega), if_neg (show ¬ (kT T n k = 274) by omega), if_neg (show ¬ (kT T n k = 275) by omega), if_neg (show ¬ (kT T n k = 276) by omega), if_neg (show ¬ (kT T n k = 277) by omega), if_neg (show ¬ (kT T n k = 278) by omega)]
    refine Tr_t c2 ?_
    rw [er, if_pos c2, h4, gd_t (OG hg)]
    have hkN : k < N := lt_of_t hN hk.2 (show kT T n k ≠ 0 by omega) (show kT T n k ≠ 1 by omega)
    have hname := kN_nm hn hL hk.1 hk.2 (Or.inl c2)
    have hpr := pixF_r (kN T n k) ns 0
    have hns := hnm.2.1
    unfold f_Reader_takeNameOfPiece
    have hcon : f_Reader_content S0 V 35 = some (nm32 (kN T n k) 33554432, V) := by rw [C_content hX h3 hk, hname.2.1]
    rw [gd_t O_35]
    rw [show bnd (f_Reader_content S0 V 35) (fun r1 V2 => gd (isO S0 (V 35 4) 1) (bnd (f_Game_pieceNamed S0 V2 (V 35 4) r1) (fun r4 V5 => bnd (f_Reader_type S0 V5 35) (fun r8 V9 => if r8 = 2 then (if r4 = (-1) then (bnd (f_Reader_fail S0 V9 35 3) (fun r14 V15 => some (r4, V15))) else (bnd (f_Reader_step S0 V9 35) (fun r11 V12 => some (r4, V12)))) else (bnd (f_Reader_fail S0 V9 35 1) (fun r17 V18 => some (r4, V18))))))) = (if pixF (kN T n k) ns 0 = -1 then (bnd (f_Reader_fail S0 V 35 3) (fun r14 V15 => some (pixF (kN T n k) ns 0, V15))) else (bnd (f_Reader_step S0 V 35) (fun r11 V12 => some (pixF (kN T n k) ns 0, V12)))) from by
      rw [hcon, bnd_e, h4, gd_t (OG hg), C_named hg hnm hname.1, bnd_e, C_type hX h3 hk, bnd_e, if_pos c2]]
    by_cases d : pixF (kN T n k) ns 0 = -1
    · rw [if_pos d, if_pos d]
      refine Tr_bnd (P := fun r U => FQ T n N g 3 (kP T n k) V U) ?_ ?_
      · refine Tr_bnd (C_failN hg hX h3 hk h0 (by decide)) ?_
        rintro _ U hU
        exact Tr_ret hU
      rintro r U hU
      have hJ : ∀ v, Tr (b_Reader_readPart_J226 S0 (f_RD S0 u') U 35 (aF S0 g 5) v) (fun _ W => PST T n N g (flR (tkK T n) 3 k) V W) := by
        intro v
        unfold b_Reader_readPart_J226
        rw [(O_g5 hg).1, gd_t (O_g5 hg).2]
        refine Tr_bnd (C_emitM hg hU.1 v) ?_
        rintro _ W hW
        exact Tr_ret (PST_fl (by decide) (FQ_tr hU hW))
      exact Tr_if (fun _ => hJ _) (fun _ => hJ _)
    · rw [if_neg d, if_neg d]
      have hp01 : pixF (kN T n k) ns 0 = 0 ∨ pixF (kN T n k) ns 0 = 1 := by omega
      refine Tr_bnd (P := fun r U => r = pixF (kN T n k) ns 0 ∧ U 35 = upI (V 35) 3 (k + 1) ∧ ∀ a, a ≠ 35 → U a = V a) ?_ ?_
      · refine Tr_bnd (C_step hX h3 ⟨hk.1, hkN⟩) ?_
        rintro _ U ⟨w4, w5⟩
        exact Tr_ret ⟨rfl, w4, w5⟩
      rintro r U ⟨hr, e1, f1⟩
      have p1 := prC_st hg h' hkN e1 f1
      have hlt : U (g + 1) 2 < 1800 := by rw [f1 (g + 1) (by omega)]; omega
      have hJ : ∀ v, v = cmw (4 + pixF (kN T n k) ns 0, 0) → Tr (b_Reader_readPart_J226 S0 (f_RD S0 u') U 35 (aF S0 g 5) v) (fun _ W => PST T n N g (okR (k + 1) [(4 + pixF (kN T n k) ns 0, 0)]) V W) := by
        intro v hv
        unfold b_Reader_readPart_J226
        rw [(O_g5 hg).1, gd_t (O_g5 hg).2, hv]
        refine Tr_bnd (C_emitN hg p1.2.2.1 hlt (4 + pixF (kN T n k) ns 0, 0)) ?_
        rintro _ W ⟨w1, w2, w3, w4⟩
        refine Tr_ret (PST_st hg e1 f1 ?_)
        exact ⟨w3, fun _ => ⟨w1, by rw [w2]; exact p1.2.2.2.1, by rw [w2], by rw [w2]; exact p1.2.2.2.2.1, by rw [w2], w4⟩, fun y => absurd rfl y⟩
      refine Tr_if (fun q => hJ _ ?_) (fun q => hJ _ ?_)
      · rw [show pixF (kN T n k) ns 0 = 0 by omega]; rfl
      · rw [show pixF (kN T n k) ns 0 = 1 by omega]; rfl
  refine Tr_f c2 ?_
  by_cases c3 : kT T n k = 3
  · have er : ∀ A B C : R3, (if kT T n k = 40 then A else if kT T n k = 3 then B else C) = B := fun A B C => by rw [if_neg (show ¬ (kT T n k = 40) by omega), if_pos c3]
    refine Tr_t c3 ?_
    rw [er, h4, gd_t (OG hg)]
    refine Tr_bq (C_content hX h3 hk) ?_
    rw [kV_c c3]
    exact one (0, kV T n k) _ rfl (by omega)
  refine Tr_f c3 ?_
  by_cases c40 : kT T n k = 40
  · refine Tr_t c40 ?_
    rw [if_pos c40] at h9 ⊢
    refine Tr_bnd (C_open hg hN h' (w := 40) (by decide)) ?_
    rintro _ U1 (⟨-, o8, w2, w3, w4, w5⟩ | ⟨-, o8, hF⟩ | ⟨c', -⟩)
    · rw [if_neg o8] at h9 ⊢
      refine C_brk hg hN rfl (by decide) i6 h' w3 w4 w5 (by unfold nee at *; omega) (by unfold nee at hu; omega) (by decide) h9 (fun U3 hU3 => ?_)
      exact Tr_ret hU3
    · rw [if_pos o8] at h9 ⊢
      refine Tr_bnd (F_any hg hN hF.1 (idx := 4) (by decide) (by unfold nee at hu; omega)) ?_
      rintro _ U2 hU2
      refine Tr_cl (C_closeM hg hN hU2.1 (by decide)) ?_
      rintro _ U3 hU3
      exact Tr_ret (PST_fl (by decide) (FQ_tr hF (FQ_tr hU2 hU3)))
    · exact absurd c40 c'
  refine Tr_f c40 ?_
  rw [if_neg c40, if_neg c3] at h9 ⊢
  by_cases c4 : kT T n k = 274
  · refine Tr_t c4 ?_
    rw [if_pos c4, h4, gd_t (OG hg)]
    exact one (1, 0) _ rfl (by omega)
  refine Tr_f c4 ?_
  rw [if_neg c4] at h9 ⊢
  by_cases c5 : kT T n k = 275
  · refine Tr_t c5 ?_
    rw [if_pos c5, h4, gd_t (OG hg)]
    exact one (2, 0) _ rfl (by omega)
  refine Tr_f c5 ?_
  rw [if_neg c5] at h9 ⊢
  by_cases c6 : kT T n k = 276
  · refine Tr_t c6 ?_
    rw [if_pos c6, h4, gd_t (OG hg)]
    exact one (3, 0) _ rfl (by omega)
  refine Tr_f c6 ?_
  rw [if_neg c6] at h9 ⊢
  by_cases c7 : kT T n k = 277
  · have hkN : k < N := lt_of_t hN hk.2 (show kT T n k ≠ 0 by omega) (show kT T n k ≠ 1 by omega)
    refine Tr_t c7 ?_
    rw [if_pos c7] at h9 ⊢
    refine Tr_bnd (i12 k o u' V h' hkN (by unfold nee at *; omega) h9) ?_
    rintro _ U hU
    exact Tr_ret hU
  refine Tr_f c7 ?_
  rw [if_neg c7] at h9 ⊢
  by_cases c8 : kT T n k = 278
  · have hkN : k < N := lt_of_t hN hk.2 (show kT T n k ≠ 0 by omega) (show kT T n k ≠ 1 by omega)
    refine Tr_t c8 ?_
    rw [if_pos c8] at h9 ⊢
    refine Tr_bnd (i13 k o u' V h' hkN (by unfold nee at *; omega) h9) ?_
    rintro _ U hU
    exact Tr_ret hU
  refine Tr_f c8 ?_
  rw [if_neg c8, if_neg c2]
  refine Tr_bnd (C_failN hg hX h3 hk h0 (by decide)) ?_
  rintro _ U hU
  exact Tr_ret (PST_fl (by decide) hU)
-- ---- pairs
theorem F_t5 {T : Int → Int} {n N g kd pc op : Int} {V : ASt} (hg : isGm g) (h : FM T n N g kd pc V) : Tr (gd (isO S0 (V 35 4) 1) (gd (isO S0 (aF S0 (V 35 4) 5) 8) (bnd (f_Tests_emit S0 V (aF S0 (V 35 4) 5) op) (fun _ V21 => some ((0 : Int), V21))))) (fun _ U => FQ T n N g kd pc V U) := by
  rw [h.1.2.1, gd_t (OG hg), (O_g5 hg).1, gd_t (O_g5 hg).2]
  refine Tr_bnd (C_emitM hg h op) ?_
  rintro _ W hW
  exact Tr_ret hW
theorem F_t3 {T : Int → Int} {n N g kd pc op : Int} {u : Nat} {V : ASt} (hg : isGm g) (hN : lsT (tkK T n) N) (hu : 7 ≤ u) (h : FM T n N g kd pc V) : Tr (bnd (f_RD S0 u 4 V 35 0) (fun _ V14 => bnd (f_Reader_take S0 V14 35 41) (fun _ V17 => wV (aset V17 35 5 (w32 ((V17 35 5) - 1))) (fun V19 => gd (isO S0 (V19 35 4) 1) (gd (isO S0 (aF S0 (V19 35 4) 5) 8) (bnd (f_Tests_emit S0 V19 (aF S0 (V19 35 4) 5) op) (fun _ V21 => some ((0 : Int), V21)))))))) (fun _ U => FQ T n N g kd pc V U) := by
  refine Tr_bnd (F_any hg hN h (idx := 4) (by decide) (by omega)) ?_
  rintro _ U1 h1
  refine Tr_cl (C_closeM hg hN h1.1 (by decide)) ?_
  rintro _ U2 h2
  refine Tr_mono (F_t5 hg h2.1) ?_
  rintro _ U3 h3
  exact FQ_tr h1 (FQ_tr h2 h3)
theorem CL_pair {T : Int → Int} {n N g : Int} {ns : List (List Int)} {m nt : Nat} {c : Int × Int} (hg : isGm g) (hN : lsT (tkK T n) N) (i6 : CLf T n N g ns m 6 4)
    (e : ∀ k o, ps (tkK T n) ns (m + 1) nt k o = if kT T n k = 40 then (if o = 8 then flR (tkK T n) 5 k else sqR (ps (tkK T n) ns m 6 (k + 1) (o + 1)) (fun k => if kT T n k = 44 then sqR (ps (tkK T n) ns m 6 (k + 1) (o + 1)) (fun k => if kT T n k = 41 then okR (k + 1) [c] else flR (tkK T n) 1 k) else flR (tkK T n) 1 k)) else flR (tkK T n) 1 k) :
    CLp T n N g ns (m + 1) nt (cmw c) := by
  have hgr := gm_r hg
  intro k o u V h hkN hu h9
  have ho := h.2.1
  obtain ⟨u', eu⟩ : ∃ u', u = u' + 1 := ⟨u - 1, by unfold nee at hu; omega⟩
  subst eu
  rw [e] at h9 ⊢
  show Tr (f_Reader_readPair S0 (f_RD S0 u') V 35 (cmw c)) _
  unfold f_Reader_readPair
  rw [gd_t O_35]
  refine Tr_bnd (C_step h.2.2.1 h.2.2.2.2.1 ⟨h.1.1, hkN⟩) ?_
  rintro _ V1 ⟨a1, b1⟩
  have p1 := prC_st hg h hkN a1 b1
  have f01 : frG g V V1 := frG_35 hg b1 (fun k _ _ k3 _ => by rw [a1, upI_n _ _ k3])
  have hlV : V1 (g + 1) 2 ≤ k := by rw [b1 (g + 1) (by omega)]; exact h.2.2.2.2.2.2.1
  -- behind a fault: all the rest
  have tl1 : ∀ (U : ASt) (kd pc : Int), FM T n N g kd pc U → Tr (bnd (f_RD S0 u' 4 U 35 0) (fun _ V8 => bnd (f_Reader_take S0 V8 35 44) (fun _ V11 => bnd (f_RD S0 u' 4 V11 35 0) (fun _ V14 => bnd (f_Reader_take S0 V14 35 41) (fun _ V17 => wV (aset V17 35 5 (w32 ((V17 35 5) - 1))) (fun V19 => gd (isO S0 (V19 35 4) 1) (gd (isO S0 (aF S0 (V19 35 4) 5) 8) (bnd (f_Tests_emit S0 V19 (aF S0 (V19 35 4) 5) (cmw c)) (fun _ V21 => some ((0 : Int), V21)))))))))) (fun _ W => FQ T n N g kd pc U W) := by
    intro U kd pc hF
    refine Tr_bnd (F_any hg hN hF (idx := 4) (by decide) (by unfold nee at hu; omega)) ?_
    rintro _ U1 h1
    refine Tr_bnd (C_takeM hg hN h1.1 (by decide)) ?_
    rintro _ U2 h2
    refine Tr_mono (F_t3 hg hN (by unfold nee at hu; omega) h2.1) ?_
    rintro _ U3 h3
    exact FQ_tr h1 (FQ_tr ⟨h2.1, h2.2⟩ h3)
  refine Tr_bnd (C_open hg hN p1 (w := 40) (by decide)) ?_
  rintro _ U1 (⟨c1, o8, w2, w3, w4, w5⟩ | ⟨c1, o8, hF⟩ | ⟨c1, hF⟩)
  · rw [if_pos c1, if_neg o8] at h9
    rw [if_pos c1, if_neg o8]
    have h99 := sqR_9 h9
    have f02 : frG g V1 U1 := frG_35 hg w5 (fun k _ _ k3 k5 => by rw [w4, upI_n _ _ k5, upI_n _ _ k3])
    have ha : adv N (k + 1 + 1) 1 (ps (tkK T n) ns m 6 (k + 1 + 1) (o + 1)) := ps_adv (ns := ns) hN m 6 _ _ w3.1.2
    refine Tr_bnd (i6 (k + 1 + 1) (o + 1) u' U1 w3 (by unfold nee at *; omega) h99.1) ?_
    rintro _ U2 hU2
    by_cases z : (ps (tkK T n) ns m 6 (k + 1 + 1) (o + 1)).1 = 0
    · have p2 := prC_ok hg w3 ha (by omega) z hU2
      have h9b := h99.2 z
      have hv := ha z
      obtain ⟨q1, q2, q3, q4, q5, q6⟩ := hU2.2.1 z
      rw [sqR_o z]
      have h9c : (if kT T n (ps (tkK T n) ns m 6 (k + 1 + 1) (o + 1)).2.1 = 44 then sqR (ps (tkK T n) ns m 6 ((ps (tkK T n) ns m 6 (k + 1 + 1) (o + 1)).2.1 + 1) (o + 1)) (fun k => if kT T n k = 41 then okR (k + 1) [c] else flR (tkK T n) 1 k) else flR (tkK T n) 1 (ps (tkK T n) ns m 6 (k + 1 + 1) (o + 1)).2.1).1 ≠ 9 := h9b
      generalize hr1 : ps (tkK T n) ns m 6 (k + 1 + 1) (o + 1) = r1 at *
      clear h9b h9 h99
      refine Tr_bnd (C_take hg hN p2.2.2.1 p2.2.2.2.2.1 p2.1 p2.2.2.2.1 (w := 44) (by decide)) ?_
      rintro _ U3 (⟨c2, x2, x3, x4, x5⟩ | ⟨c2, x2, x3⟩)
      · rw [if_pos c2] at h9c ⊢
        have h98 := sqR_9 h9c
        have p3 := prC_st hg p2 x2 x4 x5
        have ha2 : adv N (r1.2.1 + 1) 1 (ps (tkK T n) ns m 6 (r1.2.1 + 1) (o + 1)) := ps_adv (ns := ns) hN m 6 _ _ p3.1.2
        have f03 : frG g U2 U3 := frG_35 hg x5 (fun k _ _ k3 _ => by rw [x4, upI_n _ _ k3])
        refine Tr_bnd (i6 (r1.2.1 + 1) (o + 1) u' U3 p3 (by unfold nee at *; omega) h98.1) ?_
        rintro _ U4 hU4
        by_cases y : (ps (tkK T n) ns m 6 (r1.2.1 + 1) (o + 1)).1 = 0
        · have p4 := prC_ok hg p3 ha2 (by omega) y hU4
          have hv2 := ha2 y
          obtain ⟨s1, s2, s3, s4, s5, s6⟩ := hU4.2.1 y
          rw [sqR_o y]
          generalize hr2 : ps (tkK T n) ns m 6 (r1.2.1 + 1) (o + 1) = r2 at *
          clear h98 h9c
          refine Tr_cl (C_close hg hN p4 ho.1 (w := 41) (by decide)) ?_
          rintro _ U5 (⟨c3, y2, y3, y4, y5⟩ | ⟨c3, hF⟩)
          · have f05 : frG g U4 U5 := frG_35 hg y5 (fun k _ _ k3 k5 => by rw [y4, upI_n _ _ k5, upI_n _ _ k3])
            have hNN := y3.2.2.2
            have hlt : U5 (g + 1) 2 < 1800 := by
              have e1 : U5 (g + 1) 2 = U4 (g + 1) 2 := by rw [y5 (g + 1) (by omega)]
              have e2 : U3 (g + 1) 2 = U2 (g + 1) 2 := by rw [x5 (g + 1) (by omega)]
              have e3 : U1 (g + 1) 2 = V1 (g + 1) 2 := by rw [w5 (g + 1) (by omega)]
              have := s6.1
              have := q6.1
              omega
            rw [y3.2.1, gd_t (OG hg), (O_g5 hg).1, gd_t (O_g5 hg).2]
            refine Tr_bnd (C_emitN hg y3 hlt c) ?_
            rintro _ U6 ⟨v1, v2, v3, v4⟩
            rw [if_pos c3, if_pos (show (okR (r2.2.1 + 1) [c]).1 = 0 from rfl), if_pos rfl]
            refine Tr_ret ⟨frG_tr f01 (frG_tr f02 (frG_tr hU2.1 (frG_tr f03 (frG_tr hU4.1 (frG_tr f05 v3))))), fun _ => ⟨v1, ?_, ?_, ?_, ?_, ?_⟩, fun t => absurd rfl t⟩
            · rw [v2, y4, upI_n _ _ (by decide), upI_n _ _ (by decide)]; exact s2
            · rw [v2, y4, upI_n _ _ (by decide), upI_n _ _ (by decide), s3, x4, upI_n _ _ (by decide), q3, w4, upI_n _ _ (by decide), upI_n _ _ (by decide), a1, upI_n _ _ (by decide)]
            · rw [v2, y4, upI_n _ _ (by decide), upI_s]; rfl
            · rw [v2, y4, upI_s]; exact h.2.2.2.2.2.1.symm
            · show cdA g V U6 (r1.2.2.2 ++ (r2.2.2.2 ++ [c]))
              have k1 : cdA g V U2 r1.2.2.2 := by
                unfold cdA at *
                rw [w5 (g + 1) (by omega), w5 (g + 2) (by omega), b1 (g + 1) (by omega), b1 (g + 2) (by omega)] at q6
                exact q6
              have k2 : cdA g U2 U4 r2.2.2.2 := by
                unfold cdA at *
                rw [x5 (g + 1) (by omega), x5 (g + 2) (by omega)] at s6
                exact s6
              have k3 : cdA g U4 U6 [c] := by
                unfold cdA at *
                rw [y5 (g + 1) (by omega), y5 (g + 2) (by omega)] at v4
                exact v4
              exact cdA_tr k1 (cdA_tr k2 k3)
          · refine Tr_mono (F_t5 hg hF.1) ?_
            rintro _ U6 h6
            rw [if_neg c3, if_neg (show ¬ ((flR (tkK T n) 1 r2.2.1).1 = 0) from show ¬ ((1 : Int) = 0) by decide), if_neg (show ¬ ((flR (tkK T n) 1 r2.2.1).1 = 0) from show ¬ ((1 : Int) = 0) by decide)]
            exact PST_fl (by decide) ⟨h6.1, frG_tr f01 (frG_tr f02 (frG_tr hU2.1 (frG_tr f03 (frG_tr hU4.1 (frG_tr hF.2 h6.2)))))⟩
        · rw [sqR_f y, if_neg y]
          refine Tr_cl (C_closeM hg hN (hU4.2.2 y) (by decide)) ?_
          rintro _ U5 h5
          refine Tr_mono (F_t5 hg h5.1) ?_
          rintro _ U6 h6
          exact ⟨frG_tr f01 (frG_tr f02 (frG_tr hU2.1 (frG_tr f03 (frG_tr hU4.1 (frG_tr h5.2 h6.2))))), fun t => absurd t y, fun _ => h6.1⟩
      · refine Tr_mono (F_t3 hg hN (by unfold nee at hu; omega) x2) ?_
        rintro _ U6 h6
        rw [if_neg c2, if_neg (show ¬ ((flR (tkK T n) 1 r1.2.1).1 = 0) from show ¬ ((1 : Int) = 0) by decide)]
        exact PST_fl (by decide) ⟨h6.1, frG_tr f01 (frG_tr f02 (frG_tr hU2.1 (frG_tr x3 h6.2)))⟩
    · rw [sqR_f z]
      refine Tr_bnd (C_takeM hg hN (hU2.2.2 z) (by decide)) ?_
      rintro _ U3 h3
      refine Tr_mono (F_t3 hg hN (by unfold nee at hu; omega) h3.1) ?_
      rintro _ U6 h6
      exact ⟨frG_tr f01 (frG_tr f02 (frG_tr hU2.1 (frG_tr h3.2 h6.2))), fun t => absurd t z, fun _ => h6.1⟩
  · rw [if_pos c1, if_pos o8]
    refine Tr_mono (tl1 U1 _ _ hF.1) ?_
    rintro _ U6 h6
    exact PST_fl (by decide) ⟨h6.1, frG_tr f01 (frG_tr hF.2 h6.2)⟩
  · rw [if_neg c1]
    refine Tr_mono (tl1 U1 _ _ hF.1) ?_
    rintro _ U6 h6
    exact PST_fl (by decide) ⟨h6.1, frG_tr f01 (frG_tr hF.2 h6.2)⟩
theorem CL_all {T : Int → Int} {n N g : Int} {ns : List (List Int)} (hg : isGm g) (hn : 0 ≤ n) (hL : lstK T n N) : ∀ m : Nat, CLf T n N g ns m 0 0 ∧ CLl T n N g ns m 1 1 lfT ∧ CLf T n N g ns m 2 1 ∧ CLl T n N g ns m 3 2 lfB ∧ CLf T n N g ns m 4 2 ∧ CLc T n N g ns m ∧ CLf T n N g ns m 6 4 ∧ CLl T n N g ns m 7 5 lfS ∧ CLf T n N g ns m 8 5 ∧ CLl T n N g ns m 9 6 lfP ∧ CLf T n N g ns m 10 6 ∧ CLb T n N g ns m ∧ CLp T n N g ns m 12 (-7) ∧ CLp T n N g ns m 13 (-8) := by
  have hN : lsT (tkK T n) N := hL.2.2.2
  intro m
  induction m with
  | zero => exact ⟨fun _ _ _ _ _ _ h => absurd rfl h, fun _ _ _ _ _ _ _ _ _ _ _ h => absurd rfl h, fun _ _ _ _ _ _ h => absurd rfl h, fun _ _ _ _ _ _ _ _ _ _ _ h => absurd rfl h, fun _ _ _ _ _ _ h => absurd rfl h, fun _ _ _ _ _ _ h => absurd rfl h, fun _ _ _ _ _ _ h => absurd rfl h, fun _ _ _ _ _ _ _ _ _ _ _ h => absurd rfl h, fun _ _ _ _ _ _ h => absurd rfl h, fun _ _ _ _ _ _ _ _ _ _ _ h => absurd rfl h, fun _ _ _ _ _ _ h => absurd rfl h, fun _ _ _ _ _ _ _ _ h => absurd rfl h, fun _ _ _ _ _ _ _ h => absurd rfl h, fun _ _ _ _ _ _ _ h => absurd rfl h⟩
  | succ m ih =>
    obtain ⟨a0, a1, a2, a3, a4, a5, a6, a7, a8, a9, a10, ab, a12, a13⟩ := ih
    exact ⟨CL_test hg hN a2 a1, CL_testL hg hN a2 a1, CL_both hg hN a4 a3, CL_bothL hg hN a4 a3, CL_fact hg hN ab, CL_cmp hg hN a6, CL_sum hg hN a8 a7, CL_sumL hg hN a8 a7, CL_prod hg hN a10 a9, CL_prodL hg hN a10 a9, CL_part hg hn hL a6 a12 a13, CL_factB hg hN a0 a5, CL_pair (c := (15, 0)) hg hN a6 (fun _ _ => rfl), CL_pair (c := (16, 0)) hg hN a6 (fun _ _ => rfl)⟩
