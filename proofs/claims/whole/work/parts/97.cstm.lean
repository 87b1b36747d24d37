/-! the class's statements: the smallest deeds -/
def Ct (T : Int → Int) (n N g : Int) (P : Prop) (k : Int) (R F : PR) (V : ASt) : Prop := (P ∧ (0 ≤ k ∧ k ≤ N) ∧ CX T n N g V ∧ V 35 0 = 0 ∧ V 35 1 = -1 ∧ V 35 3 = k ∧ V 35 5 = 0 ∧ R = F) ∨ (∃ kd p : Int, R = Sum.inl (kd, p) ∧ FM T n N g kd p V)
theorem Ct_P {T : Int → Int} {n N g k : Int} {P Q : Prop} {R F : PR} {V : ASt} (h : Ct T n N g P k R F V) (hq : P → Q) : Ct T n N g Q k R F V := by
  rcases h with ⟨a, b⟩ | h
  · exact Or.inl ⟨hq a, b⟩
  · exact Or.inr h
theorem Ct_CX {T : Int → Int} {n N g k : Int} {P : Prop} {R F : PR} {V : ASt} (h : Ct T n N g P k R F V) : CX T n N g V := by
  rcases h with ⟨_, _, a, _⟩ | ⟨_, _, _, a, _⟩
  · exact a
  · exact a
theorem T_take {T : Int → Int} {n N g k w : Int} {P : Prop} {R : PR} {f : Int → PR} {V : ASt} (hg : isGm g) (hL : lstK T n N) (hw : w ≠ 0 ∧ w ≠ 1) (h : Ct T n N g P k R (tkw (tkK T n) w k f) V) : Tr (f_Reader_take S0 V 35 w) (fun _ U => frG g V U ∧ Ct T n N g (P ∧ ∀ a, a ≠ 35 → U a = V a) (k + 1) R (f (k + 1)) U) := by
  have hN : lsT (tkK T n) N := hL.2.2.2
  rcases h with ⟨hP, hk, hX, h0, h1, h3, h5, hR⟩ | ⟨kd, p, hR, hF⟩
  · refine Tr_mono (C_take hg hN hX h3 hk h0 hw) ?_
    unfold tkw at hR
    rintro _ U (⟨u1, u2, u3, u4, u5⟩ | ⟨u1, u2, u3⟩)
    · rw [if_pos (show (tkK T n).1 k = w from u1)] at hR
      refine ⟨frG_35 hg u5 (fun j _ _ j3 _ => by rw [u4, upI_n _ _ j3]), Or.inl ⟨⟨hP, u5⟩, ⟨by omega, by omega⟩, u3, ?_, ?_, ?_, ?_, hR⟩⟩
      · rw [u4, upI_n _ _ (by decide)]; exact h0
      · rw [u4, upI_n _ _ (by decide)]; exact h1
      · rw [u4, upI_s]
      · rw [u4, upI_n _ _ (by decide)]; exact h5
    · rw [if_neg (show ¬ (tkK T n).1 k = w from u1)] at hR
      exact ⟨u3, Or.inr ⟨1, _, hR, u2⟩⟩
  · exact Tr_mono (C_takeM hg hN hF hw) (fun _ U hU => ⟨hU.2, Or.inr ⟨kd, p, hR, hU.1⟩⟩)
theorem T_num {T : Int → Int} {n N g k lo hi : Int} {P : Prop} {R : PR} {f : Int → Int → PR} {V : ASt} (hg : isGm g) (hL : lstK T n N) (h : Ct T n N g P k R (nmb (tkK T n) lo hi k f) V) : Tr (f_Reader_takeNumber S0 V 35 lo hi) (fun y U => frG g V U ∧ Ct T n N g (P ∧ ∀ a, a ≠ 35 → U a = V a) (k + 1) R (f (k + 1) y) U) := by
  have hN : lsT (tkK T n) N := hL.2.2.2
  unfold f_Reader_takeNumber
  rw [gd_t O_35]
  rcases h with ⟨hP, hk, hX, h0, h1, h3, h5, hR⟩ | ⟨kd, p, hR, hF⟩
  · refine Tr_bq (C_content hX h3 hk) (Tr_bq (C_type hX h3 hk) ?_)
    unfold nmb at hR
    refine Tr_if (fun c => ?_) (fun c => ?_)
    · rw [if_pos (show (tkK T n).1 k = 3 from c)] at hR
      have hkN : k < N := lt_of_t hN hk.2 (show kT T n k ≠ 0 by omega) (show kT T n k ≠ 1 by omega)
      have ev : kC T n k = (tkK T n).2.2.2 k := kV_c c
      have bad : ¬ (lo ≤ (tkK T n).2.2.2 k ∧ (tkK T n).2.2.2 k ≤ hi) → Tr (b_Reader_takeNumber_J31 S0 V 35 (kC T n k)) (fun y U => frG g V U ∧ Ct T n N g (P ∧ ∀ a, a ≠ 35 → U a = V a) (k + 1) R (f (k + 1) y) U) := by
        intro q
        rw [if_neg q] at hR
        unfold b_Reader_takeNumber_J31
        refine Tr_bnd (C_failN hg hX h3 hk h0 (by decide)) ?_
        rintro _ U hU
        exact Tr_ret ⟨hU.2, Or.inr ⟨4, _, hR, hU.1⟩⟩
      refine Tr_if (fun d => bad (by rw [← ev]; omega)) (fun d => Tr_if (fun e => ?_) (fun e => bad (by rw [← ev]; omega)))
      rw [if_pos (by rw [← ev]; omega)] at hR
      refine Tr_bnd (C_step hX h3 ⟨hk.1, hkN⟩) ?_
      rintro _ U ⟨u4, u5⟩
      refine Tr_ret ⟨frG_35 hg u5 (fun j _ _ j3 _ => by rw [u4, upI_n _ _ j3]), Or.inl ⟨⟨hP, u5⟩, ⟨by omega, by omega⟩, CX_35 hg hX u5 (by rw [u4, upI_n _ _ (by decide)]), ?_, ?_, ?_, ?_, by rw [ev]; exact hR⟩⟩
      · rw [u4, upI_n _ _ (by decide)]; exact h0
      · rw [u4, upI_n _ _ (by decide)]; exact h1
      · rw [u4, upI_s]
      · rw [u4, upI_n _ _ (by decide)]; exact h5
    · rw [if_neg (show ¬ (tkK T n).1 k = 3 from c)] at hR
      refine Tr_bnd (C_failN hg hX h3 hk h0 (by decide)) ?_
      rintro _ U hU
      exact Tr_ret ⟨hU.2, Or.inr ⟨1, _, hR, hU.1⟩⟩
  · have hN' : kT T n N = 0 ∨ kT T n N = 1 := hN
    refine Tr_bq (C_content hF.1 hF.2.2.2.2 ⟨hF.1.2.2.2.1, Int.le_refl N⟩) (Tr_bq (FM_type hF) (Tr_f (by omega) ?_))
    refine Tr_bnd (C_failM hg hF) ?_
    rintro _ U hU
    exact Tr_ret ⟨hU.2, Or.inr ⟨kd, p, hR, hU.1⟩⟩
theorem T_name {T : Int → Int} {n N g k : Int} {ns : List (List Int)} {P : Prop} {R : PR} {f : Int → Int → PR} {V : ASt} (hg : isGm g) (hn : 0 ≤ n) (hL : lstK T n N) (hnm : nmH ns g V) (h : Ct T n N g P k R (ask (tkK T n) ns k f) V) : Tr (f_Reader_takeNameOfPiece S0 V 35) (fun y U => frG g V U ∧ Ct T n N g (P ∧ ∀ a, a ≠ 35 → U a = V a) (k + 1) R (f (k + 1) y) U) := by
  have hN : lsT (tkK T n) N := hL.2.2.2
  unfold f_Reader_takeNameOfPiece
  rw [gd_t O_35]
  rcases h with ⟨hP, hk, hX, h0, h1, h3, h5, hR⟩ | ⟨kd, p, hR, hF⟩
  · rw [hX.2.1]
    refine Tr_bq (C_content hX h3 hk) ?_
    rw [gd_t (OG hg)]
    unfold ask at hR
    by_cases c : kT T n k = 2
    · obtain ⟨q1, q2, -⟩ := kN_nm hn hL hk.1 hk.2 (Or.inl c)
      have hkN : k < N := lt_of_t hN hk.2 (show kT T n k ≠ 0 by omega) (show kT T n k ≠ 1 by omega)
      rw [q2]
      refine Tr_bq (C_named hg hnm q1) (Tr_bq (C_type hX h3 hk) (Tr_t c ?_))
      rw [if_pos (show (tkK T n).1 k = 2 from c)] at hR
      refine Tr_if (fun d => ?_) (fun d => ?_)
      · rw [if_pos (show pixF ((tkK T n).2.2.1 k) ns 0 = -1 from d)] at hR
        refine Tr_bnd (C_failN hg hX h3 hk h0 (by decide)) ?_
        rintro _ U hU
        exact Tr_ret ⟨hU.2, Or.inr ⟨3, _, hR, hU.1⟩⟩
      · rw [if_neg (show ¬ pixF ((tkK T n).2.2.1 k) ns 0 = -1 from d)] at hR
        refine Tr_bnd (C_step hX h3 ⟨hk.1, hkN⟩) ?_
        rintro _ U ⟨u4, u5⟩
        refine Tr_ret ⟨frG_35 hg u5 (fun j _ _ j3 _ => by rw [u4, upI_n _ _ j3]), Or.inl ⟨⟨hP, u5⟩, ⟨by omega, by omega⟩, CX_35 hg hX u5 (by rw [u4, upI_n _ _ (by decide)]), ?_, ?_, ?_, ?_, hR⟩⟩
        · rw [u4, upI_n _ _ (by decide)]; exact h0
        · rw [u4, upI_n _ _ (by decide)]; exact h1
        · rw [u4, upI_s]
        · rw [u4, upI_n _ _ (by decide)]; exact h5
    · obtain ⟨y, ey⟩ := C_named0 (c := kC T n k) hg hnm
      refine Tr_bq ey (Tr_bq (C_type hX h3 hk) (Tr_f c ?_))
      rw [if_neg (show ¬ (tkK T n).1 k = 2 from c)] at hR
      refine Tr_bnd (C_failN hg hX h3 hk h0 (by decide)) ?_
      rintro _ U hU
      exact Tr_ret ⟨hU.2, Or.inr ⟨1, _, hR, hU.1⟩⟩
  · have hN' : kT T n N = 0 ∨ kT T n N = 1 := hN
    rw [hF.1.2.1]
    obtain ⟨y, ey⟩ := C_named0 (c := kC T n N) hg hnm
    refine Tr_bq (C_content hF.1 hF.2.2.2.2 ⟨hF.1.2.2.2.1, Int.le_refl N⟩) ?_
    rw [gd_t (OG hg)]
    refine Tr_bq ey (Tr_bq (FM_type hF) (Tr_f (by omega) ?_))
    refine Tr_bnd (C_failM hg hF) ?_
    rintro _ U hU
    exact Tr_ret ⟨hU.2, Or.inr ⟨kd, p, hR, hU.1⟩⟩
-- ---- what the class has been told
def rlD (g : Int) (rs : List RU) (V : ASt) : Prop := ∀ i : Nat, i < rs.length → V (g + 8) i = (rs.getD i dRU).1 ∧ V (g + 12) i = (rs.getD i dRU).2.1 ∧ V (g + 9) i = (rs.getD i dRU).2.2.1 ∧ V (g + 10) i = (rs.getD i dRU).2.2.2.1 ∧ V (g + 11) i = (rs.getD i dRU).2.2.2.2.1
def cdD (g : Int) (rs : List RU) (V : ASt) : Prop := V (g + 1) 2 = (cwC rs).length ∧ V (g + 1) 3 = rs.length ∧ V (g + 3) 0 = 0 ∧ (∀ i : Nat, i < rs.length → V (g + 3) (i + 1) = (cwC (rs.take (i + 1))).length) ∧ (∀ i : Nat, i < (cwC rs).length → V (g + 2) i = cmw ((cwC rs).getD i (0, 0)))
def gmD (g : Int) (s : GS) (V : ASt) : Prop := V g 0 = s.1 ∧ nmH (nsG s) g V ∧ (∀ i : Nat, i < s.2.1.length → V (g + 6) i = (s.2.1.getD i ([], 0, 0)).2.1 ∧ V (g + 7) i = (s.2.1.getD i ([], 0, 0)).2.2) ∧ V g 4 = s.2.2.1 ∧ rlD g s.2.2.2 V ∧ cdD g s.2.2.2 V
theorem gmD_k {g : Int} {s : GS} {V U : ASt} (h : gmD g s V) (f : ∀ a, g ≤ a → a ≤ g + 12 → U a = V a) : gmD g s U := by
  unfold gmD nmH rlD cdD at *
  rw [f g (by omega) (by omega), f (g + 1) (by omega) (by omega), f (g + 2) (by omega) (by omega), f (g + 3) (by omega) (by omega), f (g + 5) (by omega) (by omega), f (g + 6) (by omega) (by omega), f (g + 7) (by omega) (by omega), f (g + 8) (by omega) (by omega), f (g + 9) (by omega) (by omega), f (g + 10) (by omega) (by omega), f (g + 11) (by omega) (by omega), f (g + 12) (by omega) (by omega)]
  exact h
theorem gmD_35 {g : Int} {s : GS} {V U : ASt} (hg : isGm g) (h : gmD g s V) (f : ∀ a, a ≠ 35 → U a = V a) : gmD g s U := by
  have hgr := gm_r hg
  exact gmD_k h (fun a a1 a2 => f a (by omega))
/-- only the reader and the game that is told are changed -/
def fD (g : Int) (V U : ASt) : Prop := (∀ a, a ≠ 35 → (a < g ∨ g + 12 < a) → U a = V a) ∧ U (g + 3) 0 = V (g + 3) 0
theorem fD_rfl (g : Int) (V : ASt) : fD g V V := ⟨fun _ _ _ => rfl, rfl⟩
theorem fD_tr {g : Int} {V U W : ASt} (h : fD g V U) (h2 : fD g U W) : fD g V W := ⟨fun a a1 a2 => by rw [h2.1 a a1 a2, h.1 a a1 a2], by rw [h2.2, h.2]⟩
theorem fD_G {g : Int} {V U : ASt} (hg : isGm g) (h : frG g V U) : fD g V U := by
  have hgr := gm_r hg
  exact ⟨fun a a1 a2 => h.1 a a1 (by omega) (by omega), by rw [h.1 (g + 3) (by omega) (by omega) (by omega)]⟩
theorem fD_s {g a j x : Int} {V U : ASt} (ha : g ≤ a ∧ a ≤ g + 12) (hj : a ≠ g + 3 ∨ j ≠ 0) (e : U a = upI (V a) j x) (n : ∀ c, c ≠ a → U c = V c) : fD g V U := ⟨fun c _ c2 => n c (by omega), by
  by_cases z : a = g + 3
  · subst z
    rw [e, upI_n _ _ (by omega)]
  · rw [n (g + 3) (Ne.symm z)]⟩
theorem CX_c {T : Int → Int} {n N g : Int} {V U : ASt} (h : CX T n N g V) (h35 : U 35 4 = V 35 4) (f : ∀ a, 36 ≤ a → a ≤ 40 → U a = V a) (hl : 0 ≤ U (g + 1) 2 ∧ U (g + 1) 2 ≤ 1800) : CX T n N g U := by
  unfold CX tkS at *
  rw [f 36 (by decide) (by decide), f 38 (by decide) (by decide), f 39 (by decide) (by decide), f 40 (by decide) (by decide), h35]
  exact ⟨h.1, h.2.1, hl, h.2.2.2⟩
theorem FM_c {T : Int → Int} {n N g kd p : Int} {V U : ASt} (h : FM T n N g kd p V) (h35 : U 35 = V 35) (f : ∀ a, 36 ≤ a → a ≤ 40 → U a = V a) (hl : 0 ≤ U (g + 1) 2 ∧ U (g + 1) 2 ≤ 1800) : FM T n N g kd p U := ⟨CX_c h.1 (by rw [h35]) f hl, by rw [h35]; exact h.2.1, h.2.2.1, by rw [h35]; exact h.2.2.2.1, by rw [h35]; exact h.2.2.2.2⟩
/-- a statement's end on the class's side -/
def CRs (T : Int → Int) (n N g : Int) (R : PR) (V : ASt) : Prop := (∃ j s, R = Sum.inr (j, s) ∧ (0 ≤ j ∧ j ≤ N) ∧ CX T n N g V ∧ V 35 0 = 0 ∧ V 35 1 = -1 ∧ V 35 3 = j ∧ V 35 5 = 0 ∧ gmD g s V ∧ V g 2 = s.2.2.2.length) ∨ (∃ kd p : Int, R = Sum.inl (kd, p) ∧ FM T n N g kd p V)
theorem gmD_p {g v w : Int} {ls : List Int} {s : GS} {V U : ASt} (hg : isGm g) (h : gmD g s V) (hl : s.2.1.length < 2) (hn : nmL ls) (h5 : U (g + 5) = upI (V (g + 5)) s.2.1.length (nm32 ls 33554432)) (h6 : U (g + 6) = upI (V (g + 6)) s.2.1.length v) (h7 : U (g + 7) = upI (V (g + 7)) s.2.1.length w) (h1 : U g = upI (V g) 1 (s.2.1.length + 1)) (ho : ∀ a, g < a → a ≤ g + 12 → a ≠ g + 5 → a ≠ g + 6 → a ≠ g + 7 → U a = V a) : gmD g (addP s (ls, v, w)) U := by
  obtain ⟨g1, ⟨g2, g3, g4⟩, g5, g6, g8, g9⟩ := h
  rw [nsG_l] at g2 g3 g4
  refine ⟨by rw [h1, upI_n _ _ (by decide)]; exact g1, ⟨?_, ?_, fun i hi => ?_⟩, fun i hi => ?_, by rw [h1, upI_n _ _ (by decide)]; exact g6, ?_, ?_⟩
  · rw [nsG_a, h1, upI_s, List.length_append, nsG_l]; simp
  · rw [nsG_a, List.length_append, nsG_l]; simp only [List.length_cons, List.length_nil]; omega
  · rw [nsG_a] at hi ⊢
    rw [h5]
    simp only [List.length_append, List.length_cons, List.length_nil, nsG_l] at hi
    by_cases c : i < s.2.1.length
    · rw [upI_n _ _ (by omega), getD_l (by rw [nsG_l]; exact c)]
      exact g4 i c
    · have e : i = (nsG s).length := by rw [nsG_l]; omega
      rw [e, getD_r, nsG_l, upI_s]
      exact ⟨rfl, hn⟩
  · have hi' : i < (s.2.1 ++ [(ls, v, w)]).length := hi
    show U (g + 6) (i : Int) = ((s.2.1 ++ [(ls, v, w)]).getD i ([], 0, 0)).2.1 ∧ U (g + 7) (i : Int) = ((s.2.1 ++ [(ls, v, w)]).getD i ([], 0, 0)).2.2
    rw [h6, h7]
    simp only [List.length_append, List.length_cons, List.length_nil] at hi'
    by_cases c : i < s.2.1.length
    · rw [upI_n _ _ (by omega), upI_n _ _ (by omega), getD_l c]
      exact g5 i c
    · have e : i = s.2.1.length := by omega
      rw [e, getD_r, upI_s, upI_s]
      exact ⟨rfl, rfl⟩
  · intro i hi
    have := g8 i hi
    rw [ho (g + 8) (by omega) (by omega) (by omega) (by omega) (by omega), ho (g + 9) (by omega) (by omega) (by omega) (by omega) (by omega), ho (g + 10) (by omega) (by omega) (by omega) (by omega) (by omega), ho (g + 11) (by omega) (by omega) (by omega) (by omega) (by omega), ho (g + 12) (by omega) (by omega) (by omega) (by omega) (by omega)]
    exact this
  · show cdD g s.2.2.2 U
    unfold cdD at *
    rw [ho (g + 1) (by omega) (by omega) (by omega) (by omega) (by omega), ho (g + 2) (by omega) (by omega) (by omega) (by omega) (by omega), ho (g + 3) (by omega) (by omega) (by omega) (by omega) (by omega)]
    exact g9
theorem T_60 {T : Int → Int} {n N g k x : Int} {s : GS} {ls : List Int} {R : PR} {V : ASt} (hg : isGm g) (hL : lstK T n N) (hf : V g 0 = s.1) (h2 : V g 2 = s.2.2.2.length) (hs : gsO s 1800) (h : Ct T n N g (((tkK T n).1 k = 2 → x = nm32 ls 33554432 ∧ nmL ls) ∧ gmD g s V ∧ s.2.1.length < 2) k R (tkw (tkK T n) 2 k (fun k1 => tkw (tkK T n) 258 k1 (fun k2 => nmb (tkK T n) 0 (s.1 - 1) k2 (fun k3 v => tkw (tkK T n) 259 k3 (fun k4 => nmb (tkK T n) 0 2 k4 (fun k5 w => Sum.inr (k5, addP s (ls, v, w)))))))) V) :
    Tr (b_Reader_readPiece_J53 S0 V 35 x) (fun _ U => fD g V U ∧ CRs T n N g R U) := by
  have hgr := gm_r hg
  unfold b_Reader_readPiece_J53
  refine Tr_bnd (T_take hg hL (by decide) h) ?_
  rintro _ U1 ⟨f1, c1⟩
  refine Tr_bnd (T_take hg hL (by decide) c1) ?_
  rintro _ U2 ⟨f2, c2⟩
  have f12 := frG_tr f1 f2
  have hF := hs.1
  rw [(Ct_CX c2).2.1, gd_t (OG hg), f12.1 g (by omega) (by omega) (by omega), hf, w32_id (by omega) (by omega)]
  refine Tr_bnd (T_num hg hL c2) ?_
  rintro v U3 ⟨f3, c3⟩
  refine Tr_bnd (T_take hg hL (by decide) c3) ?_
  rintro _ U4 ⟨f4, c4⟩
  refine Tr_bnd (T_num hg hL c4) ?_
  rintro w U5 ⟨f5, c5⟩
  have f15 := frG_tr f12 (frG_tr f3 (frG_tr f4 f5))
  rcases c5 with ⟨⟨⟨⟨⟨⟨⟨qq, hD, hl'⟩, e1⟩, e2⟩, e3⟩, e4⟩, e5⟩, b1, b2, b3, b4, b5, b6, b7⟩ | ⟨kd, p, hR, hM⟩
  · have ex : ∀ a, a ≠ 35 → U5 a = V a := fun a ha => by rw [e5 a ha, e4 a ha, e3 a ha, e2 a ha, e1 a ha]
    have hK2 : (tkK T n).1 k = 2 := by
      by_cases z : (tkK T n).1 k = 2
      · exact z
      · exfalso
        rcases h with ⟨_, _, _, _, _, _, _, hR⟩ | ⟨kd, p, hR, -⟩
        · unfold tkw at hR
          rw [if_neg z] at hR
          rw [hR] at b7; cases b7
        · rw [hR] at b7; cases b7
    obtain ⟨q1, q2⟩ := qq hK2
    have u1 : U5 g 1 = s.2.1.length := by rw [ex g (by omega), hD.2.1.1, nsG_l]
    refine Tr_t b3 ?_
    rw [b2.2.1, gd_t (OG hg)]
    unfold f_Game_addPiece
    rw [gd_t (OG hg), FG_6 hg, FG_7 hg, FG_8 hg, u1, AG5 hg, gd_in (by omega) (by omega)]
    refine Tr_bnd (P := fun _ U => fD g V U ∧ CRs T n N g R U) (Tr_f (by omega) ?_) (fun _ U hU => Tr_ret hU)
    refine Tr_set (fun W1 a1 n1 => ?_)
    rw [n1 g (by omega), u1, AG6 hg, gd_in (by omega) (by omega)]
    refine Tr_set (fun W2 a2 n2 => ?_)
    rw [n2 g (by omega), n1 g (by omega), u1, AG7 hg, gd_in (by omega) (by omega)]
    refine Tr_set (fun W3 a3 n3 => ?_)
    rw [n3 g (by omega), n2 g (by omega), n1 g (by omega), u1, w32_id (by omega) (by omega)]
    refine Tr_set (fun W a n4 => Tr_ret ?_)
    have ew : ∀ c, c ≠ 35 → c ≠ g → c ≠ g + 5 → c ≠ g + 6 → c ≠ g + 7 → W c = V c := fun c c0 c1 c2 c3 c4 => by rw [n4 c c1, n3 c c4, n2 c c3, n1 c c2, ex c c0]
    have e35 : W 35 = U5 35 := by rw [n4 35 (by omega), n3 35 (by omega), n2 35 (by omega), n1 35 (by omega)]
    have w5 : W (g + 5) = upI (V (g + 5)) s.2.1.length x := by rw [n4 (g + 5) (by omega), n3 (g + 5) (by omega), n2 (g + 5) (by omega), a1, ex (g + 5) (by omega)]
    have w6 : W (g + 6) = upI (V (g + 6)) s.2.1.length v := by rw [n4 (g + 6) (by omega), n3 (g + 6) (by omega), a2, n1 (g + 6) (by omega), ex (g + 6) (by omega)]
    have w7 : W (g + 7) = upI (V (g + 7)) s.2.1.length w := by rw [n4 (g + 7) (by omega), a3, n2 (g + 7) (by omega), n1 (g + 7) (by omega), ex (g + 7) (by omega)]
    have w0 : W g = upI (V g) 1 (s.2.1.length + 1) := by rw [a, n3 g (by omega), n2 g (by omega), n1 g (by omega), ex g (by omega)]
    rw [q1] at w5
    refine ⟨⟨fun c c1 c2 => ew c c1 (by omega) (by omega) (by omega) (by omega), by rw [ew (g + 3) (by omega) (by omega) (by omega) (by omega) (by omega)]⟩, Or.inl ⟨_, _, b7, b1, CX_c b2 (by rw [e35]) (fun c c1 c2 => by rw [ew c (by omega) (by omega) (by omega) (by omega) (by omega), ex c (by omega)]) ?_, by rw [e35]; exact b3, by rw [e35]; exact b4, by rw [e35]; exact b5, by rw [e35]; exact b6, gmD_p hg hD hl' q2 w5 w6 w7 w0 (fun c c1 c2 c3 c4 c5 => ew c (by omega) (by omega) c3 c4 c5), ?_⟩⟩
    · rw [ew (g + 1) (by omega) (by omega) (by omega) (by omega) (by omega), ← ex (g + 1) (by omega)]; exact b2.2.2.1
    · rw [w0, upI_n _ _ (by decide)]; exact h2
  · exact Tr_f (by rw [hM.2.1]; exact hM.2.2.1) (Tr_ret ⟨fD_G hg f15, Or.inr ⟨kd, p, hR, hM⟩⟩)
