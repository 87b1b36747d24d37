/-! the reference's statements: board, pieces, stuck -/
def dRU : RU := (0, 0, 0, 0, 0, [], [])
def oB (a b i : Int) : Prop := ((a = 144 ∨ a = 145 ∨ a = 149 ∨ a = 150) ∧ i ≠ b) ∨ ((146 ≤ a ∧ a ≤ 148) ∧ (i < 2 * b ∨ 2 * b + 2 ≤ i)) ∨ ((151 ≤ a ∧ a ≤ 157) ∧ (i < 12 * b ∨ 12 * b + 12 ≤ i)) ∨ ((158 ≤ a ∧ a ≤ 159) ∧ (i < 1800 * b ∨ 1800 * b + 1800 ≤ i))
/-- only the bank b and what reading uses is changed -/
def fB (b : Int) (V U : ASt) : Prop := (∀ a, a ≠ 142 → (a < 144 ∨ 165 < a) → U a = V a) ∧ (∀ k, (k < 3 ∨ 9 < k) → k ≠ 29 → k ≠ 36 → k ≠ 37 → k ≠ 39 → k ≠ 40 → U 142 k = V 142 k) ∧ (∀ a i, oB a b i → U a i = V a i)
theorem fB_rfl (b : Int) (V : ASt) : fB b V V := ⟨fun _ _ _ => rfl, fun _ _ _ _ _ _ _ => rfl, fun _ _ _ => rfl⟩
theorem fB_tr {b : Int} {V U W : ASt} (h : fB b V U) (h2 : fB b U W) : fB b V W := ⟨fun a a1 a2 => by rw [h2.1 a a1 a2, h.1 a a1 a2], fun k a1 a2 a3 a4 a5 a6 => by rw [h2.2.1 k a1 a2 a3 a4 a5 a6, h.2.1 k a1 a2 a3 a4 a5 a6], fun a i hi => by rw [h2.2.2 a i hi, h.2.2 a i hi]⟩
theorem fB_A {b : Int} {V U : ASt} (h : frA V U) : fB b V U := ⟨fun a a1 _ => h.1 a a1, fun k a1 _ _ _ _ _ => h.2 k a1, fun a i hi => by rw [h.1 a (by unfold oB at hi; omega)]⟩
theorem fB_V {b : Int} {V U : ASt} (h : fmV b V U) : fB b V U := ⟨fun a a1 a2 => h.1 a a1 (by omega), h.2.1, fun a i hi => by
  unfold oB at hi
  by_cases c : a < 158
  · rw [h.1 a (by omega) (Or.inl c)]
  · have hi' := h.2.2 i (by omega)
    have : a = 158 ∨ a = 159 := by omega
    rcases this with e | e <;> subst e
    · exact hi'.1
    · exact hi'.2⟩
theorem fB_s {b a j x : Int} {V U : ASt} (ha : 144 ≤ a ∧ a ≤ 157) (hj : ¬ oB a b j) (e : U a = upI (V a) j x) (n : ∀ c, c ≠ a → U c = V c) : fB b V U := ⟨fun c _ c2 => n c (by omega), fun k _ _ _ _ _ _ => by rw [n 142 (by omega)], fun c i hi => by
  by_cases z : c = a
  · subst z
    rw [e, upI_n _ _ (fun q => hj (by rw [← q]; exact hi))]
  · rw [n c z]⟩
theorem LX_c {T : Int → Int} {n : Int} {V U : ASt} (h : LX T n V) (h2 : U 142 2 = V 142 2) (h3 : U 143 = V 143) : LX T n U := ⟨by rw [h2]; exact h.1, h.2.1, fun i i0 i1 => by rw [h3]; exact h.2.2 i i0 i1⟩
theorem LX_B {T : Int → Int} {n b : Int} {V U : ASt} (h : LX T n V) (f : fB b V U) : LX T n U := LX_c h (f.2.1 2 (by omega) (by decide) (by decide) (by decide) (by decide) (by decide)) (f.1 143 (by decide) (by decide))
theorem fB_30 {b : Int} {V U : ASt} (f : fB b V U) : U 142 30 = V 142 30 := f.2.1 30 (by omega) (by decide) (by decide) (by decide) (by decide) (by decide)
/-- the rules told so far -/
def rlB (b : Int) (rs : List RU) (V : ASt) : Prop := ∀ i : Nat, i < rs.length → V 151 (12 * b + i) = (rs.getD i dRU).1 ∧ V 155 (12 * b + i) = (rs.getD i dRU).2.1 ∧ V 152 (12 * b + i) = (rs.getD i dRU).2.2.1 ∧ V 153 (12 * b + i) = (rs.getD i dRU).2.2.2.1 ∧ V 154 (12 * b + i) = (rs.getD i dRU).2.2.2.2.1 ∧ V 156 (12 * b + i) = (cwR (rs.take i)).length ∧ V 157 (12 * b + i) = (cwR (rs.take (i + 1))).length
def gmB (b : Int) (s : GS) (V : ASt) : Prop := V 144 b = s.1 ∧ nmR b (nsG s) V ∧ (∀ i : Nat, i < s.2.1.length → V 147 (2 * b + i) = (s.2.1.getD i ([], 0, 0)).2.1 ∧ V 148 (2 * b + i) = (s.2.1.getD i ([], 0, 0)).2.2) ∧ V 149 b = s.2.2.1 ∧ V 150 b = s.2.2.2.length ∧ rlB b s.2.2.2 V ∧ cdR b (cwR s.2.2.2) V
theorem gB_k {b : Int} {s : GS} {V U : ASt} (h : gmB b s V) (h2 : ∀ a, 144 ≤ a → a ≤ 159 → U a = V a) (h3 : U 142 29 = V 142 29) : gmB b s U := by
  unfold gmB nmR rlB cdR at *
  rw [h3, h2 144 (by decide) (by decide), h2 145 (by decide) (by decide), h2 146 (by decide) (by decide), h2 147 (by decide) (by decide), h2 148 (by decide) (by decide), h2 149 (by decide) (by decide), h2 150 (by decide) (by decide), h2 151 (by decide) (by decide), h2 152 (by decide) (by decide), h2 153 (by decide) (by decide), h2 154 (by decide) (by decide), h2 155 (by decide) (by decide), h2 156 (by decide) (by decide), h2 157 (by decide) (by decide), h2 158 (by decide) (by decide), h2 159 (by decide) (by decide)]
  exact h
theorem gB_A {b : Int} {s : GS} {V U : ASt} (h : gmB b s V) (f : frA V U) : gmB b s U := gB_k h (fun a a1 _ => f.1 a (by omega)) (f.2 29 (by omega))
/-- a statement's end: it goes on, or fault is found -/
def SR (T : Int → Int) (n N b : Int) (R : PR) (U : ASt) : Prop := (∃ j s, R = Sum.inr (j, s) ∧ (0 ≤ j ∧ j ≤ N) ∧ rKt T n j U ∧ (U 142 8 = 0 → gmB b s U)) ∨ Flt R U
theorem getD_l {α : Type} {l : List α} {x d : α} {i : Nat} (h : i < l.length) : (l ++ [x]).getD i d = l.getD i d := by
  rw [List.getD_eq_getElem?_getD, List.getD_eq_getElem?_getD, List.getElem?_append_left h]
theorem getD_r {α : Type} {l : List α} {x d : α} : (l ++ [x]).getD l.length d = x := by
  rw [List.getD_eq_getElem?_getD, List.getElem?_append_right (Nat.le_refl _), Nat.sub_self]; rfl
theorem getD_m {l : List (List Int × Int × Int)} {i : Nat} (h : i < l.length) : (l.map (fun p => p.1)).getD i [] = (l.getD i ([], 0, 0)).1 := by
  rw [List.getD_eq_getElem?_getD, List.getD_eq_getElem?_getD, List.getElem?_map, List.getElem?_eq_getElem h]; rfl
theorem nsG_a (s : GS) (p : List Int × Int × Int) : nsG (addP s p) = nsG s ++ [p.1] := by
  unfold nsG addP
  rw [List.map_append]; rfl
theorem gB_p {b v w : Int} {ls : List Int} {s : GS} {V U : ASt} (h : gmB b s V) (hl : s.2.1.length < 2) (hn : nmL ls) (h6 : U 146 = upI (V 146) (2 * b + s.2.1.length) (nm256 ls 0)) (h7 : U 147 = upI (V 147) (2 * b + s.2.1.length) v) (h8 : U 148 = upI (V 148) (2 * b + s.2.1.length) w) (h5 : U 145 = upI (V 145) b (s.2.1.length + 1)) (ho : ∀ a, 144 ≤ a → a ≤ 159 → a ≠ 145 → a ≠ 146 → a ≠ 147 → a ≠ 148 → U a = V a) (h29 : U 142 29 = V 142 29) : gmB b (addP s (ls, v, w)) U := by
  obtain ⟨g1, ⟨g2, g3, g4⟩, g5, g6, g7, g8, g9⟩ := h
  rw [nsG_l] at g2 g3 g4
  refine ⟨by rw [ho 144 (by decide) (by decide) (by decide) (by decide) (by decide) (by decide)]; exact g1, ⟨?_, ?_, fun i hi => ?_⟩, fun i hi => ?_, by rw [ho 149 (by decide) (by decide) (by decide) (by decide) (by decide) (by decide)]; exact g6, by rw [ho 150 (by decide) (by decide) (by decide) (by decide) (by decide) (by decide)]; exact g7, ?_, ?_⟩
  · rw [nsG_a, h5, upI_s, List.length_append, nsG_l]; simp
  · rw [nsG_a, List.length_append, nsG_l]; simp only [List.length_cons, List.length_nil]; omega
  · rw [nsG_a] at hi ⊢
    rw [h6]
    simp only [List.length_append, List.length_cons, List.length_nil, nsG_l] at hi
    by_cases c : i < s.2.1.length
    · rw [upI_n _ _ (by omega), getD_l (by rw [nsG_l]; exact c)]
      exact g4 i c
    · have e : i = (nsG s).length := by rw [nsG_l]; omega
      rw [e, getD_r, nsG_l, upI_s]
      exact ⟨rfl, hn⟩
  · have hi' : i < (s.2.1 ++ [(ls, v, w)]).length := hi
    show U 147 (2 * b + (i : Int)) = ((s.2.1 ++ [(ls, v, w)]).getD i ([], 0, 0)).2.1 ∧ U 148 (2 * b + (i : Int)) = ((s.2.1 ++ [(ls, v, w)]).getD i ([], 0, 0)).2.2
    rw [h7, h8]
    simp only [List.length_append, List.length_cons, List.length_nil] at hi'
    by_cases c : i < s.2.1.length
    · rw [upI_n _ _ (by omega), upI_n _ _ (by omega), getD_l c]
      exact g5 i c
    · have e : i = s.2.1.length := by omega
      rw [e, getD_r, upI_s, upI_s]
      exact ⟨rfl, rfl⟩
  · intro i hi
    have := g8 i hi
    rw [ho 151 (by decide) (by decide) (by decide) (by decide) (by decide) (by decide), ho 152 (by decide) (by decide) (by decide) (by decide) (by decide) (by decide), ho 153 (by decide) (by decide) (by decide) (by decide) (by decide) (by decide), ho 154 (by decide) (by decide) (by decide) (by decide) (by decide) (by decide), ho 155 (by decide) (by decide) (by decide) (by decide) (by decide) (by decide), ho 156 (by decide) (by decide) (by decide) (by decide) (by decide) (by decide), ho 157 (by decide) (by decide) (by decide) (by decide) (by decide) (by decide)]
    exact this
  · unfold cdR at *
    rw [h29, ho 158 (by decide) (by decide) (by decide) (by decide) (by decide) (by decide), ho 159 (by decide) (by decide) (by decide) (by decide) (by decide) (by decide)]
    exact g9
theorem R_mustS {T : Int → Int} {n N k : Int} {P : Prop} {R : PR} {g : Int → PR} {V : ASt} (hL : lstK T n N) (hX : LX T n V) (h8 : V 142 8 = 0) (h : St T n N P k R (tkw (tkK T n) 59 k g) V) :
    Tr (f_M_must_I S0 V 142 59) (fun _ U => frA V U ∧ St T n N P (k + 1) R (g (k + 1)) U) := by
  unfold f_M_must_I
  rw [gd_t O_142]
  rcases St_n h (tkw_b (by decide)) with ⟨-, hP, hk, hr, hR⟩ | ⟨z, -⟩
  · refine Tr_bq (K_sign hr h8 59 (by decide)) ?_
    unfold tkw at hR
    by_cases c : (tkK T n).1 k = 59
    · rw [if_pos c] at hR ⊢
      have hkN : k < N := K_lt hL hk.2 (by omega) (by omega)
      refine Tr_f (by decide) ?_
      unfold b_M_must_I_J17
      refine Tr_t h8 (Tr_bnd (M_next hX hL ⟨hk.1, hkN⟩ hr h8) ?_)
      rintro _ U ⟨u1, u2⟩
      exact Tr_ret ⟨u1, Or.inl ⟨hP, ⟨by omega, by omega⟩, u2, hR⟩⟩
    · rw [if_neg c] at hR ⊢
      refine Tr_t rfl (Tr_bnd (M_blame V 1 (V 142 4)) ?_)
      rintro _ U ⟨u1, -, u3, -⟩
      have u3' := u3 (by omega)
      unfold b_M_must_I_J17
      exact Tr_f (by omega) (Tr_ret ⟨u1, Or.inr ⟨1, _, hR, by decide, u3'.1, by rw [u3'.2]; exact (rKt_K hr h8).2.1⟩⟩)
  · omega
theorem R_piece {T : Int → Int} {n N b k : Int} {s : GS} {V : ASt} (hb : b = 0 ∨ b = 1) (hL : lstK T n N) (hX : LX T n V) (h30 : V 142 30 = b) (hB : gmB b s V) (hs : gsO s k) (hk : 0 ≤ k ∧ k < N) (hr : rKt T n k V) (h8 : V 142 8 = 0) :
    Tr (f_M_piece S0 V 142) (fun _ U => fB b V U ∧ SR T n N b (pcS (tkK T n) s k) U) := by
  have hl2 := hs.2.1
  have h145 : V 145 b = s.2.1.length := by rw [hB.2.1.1, nsG_l]
  have hF := hs.1
  have key : ∀ x : Int, ((x ≠ 0 ∧ s.2.1.length = 2) ∨ (x = 0 ∧ s.2.1.length ≠ 2)) → Tr (b_M_piece_J19 S0 V 142 142 x) (fun _ U => fB b V U ∧ SR T n N b (pcS (tkK T n) s k) U) := by
    intro x hx
    unfold b_M_piece_J19
    rw [gd_t O_142, F_142_13, F_142_14, F_142_15, F_142_16, F_142_17]
    refine Tr_bnd (M_counts hL hX hk hr h8) ?_
    rintro y U ⟨fU, hU⟩
    rcases hU with ⟨x0, y0, e8, e9⟩ | ⟨x0, rU, hy⟩
    · have hl : s.2.1.length = 2 := by omega
      refine Tr_t y0 (Tr_ret ⟨fB_A fU, Or.inr ⟨5, _, ?_, by decide, e8, e9⟩⟩)
      unfold pcS
      rw [if_pos hl]; rfl
    · have hl : s.2.1.length ≠ 2 := by omega
      have hk1 : 0 ≤ k + 1 ∧ k + 1 ≤ N := by omega
      have hRf : pcS (tkK T n) s k = frs (tkK T n) (nsG s) (k + 1) (fun k1 ls => tkw (tkK T n) 258 k1 (fun k2 => nmb (tkK T n) 0 (s.1 - 1) k2 (fun k3 v => tkw (tkK T n) 259 k3 (fun k4 => nmb (tkK T n) 0 2 k4 (fun k5 w => Sum.inr (k5, addP s (ls, v, w))))))) := by
        unfold pcS; rw [if_neg hl]
      rcases hy with ⟨y1, e8⟩ | ⟨y0, e8⟩
      · refine Tr_f (by omega) ?_
        have u30 : U 142 30 = b := by rw [fU.2 30 (by omega)]; exact h30
        have u145 : U 145 b = s.2.1.length := by rw [fU.1 145 (by decide)]; exact h145
        rw [u30, A_145, gd_in (by omega) (by omega), u145, w32_id (x := 2 * b) (by omega) (by omega), w32_id (x := 2 * b + (s.2.1.length : Int)) (by omega) (by omega)]
        have S0' : St T n N True (k + 1) (pcS (tkK T n) s k) (frs (tkK T n) (nsG s) (k + 1) (fun k1 ls => tkw (tkK T n) 258 k1 (fun k2 => nmb (tkK T n) 0 (s.1 - 1) k2 (fun k3 v => tkw (tkK T n) 259 k3 (fun k4 => nmb (tkK T n) 0 2 k4 (fun k5 w => Sum.inr (k5, addP s (ls, v, w)))))))) U := Or.inl ⟨trivial, hk1, rU, hRf⟩
        refine Tr_bnd (D_fresh hb hL (LX_A hX fU) u30 (gB_A hB fU).2.1 S0') ?_
        rintro y1 U1 ⟨f1, S1⟩
        rw [A_146, gd_in (by omega) (by omega)]
        refine Tr_set (fun V1 e1 n1 => ?_)
        have g1 : fB b V V1 := fB_tr (fB_A fU) (fB_tr (fB_A f1) (fB_s (by decide) (by unfold oB; omega) e1 n1))
        refine Tr_bnd (D_mustW (i := 2) (t := 258) hL (LX_B hX g1) (by decide) (by decide) (by decide) (St_k S1 (fun j _ _ => by rw [n1 142 (by decide)]))) ?_
        rintro y2 U2 ⟨f2, S2⟩
        have g2 : fB b V U2 := fB_tr g1 (fB_A f2)
        have u2 : U2 142 30 = b := by rw [fB_30 g2]; exact h30
        have e144 : U2 144 b = s.1 := by rw [f2.1 144 (by decide), n1 144 (by decide), f1.1 144 (by decide), fU.1 144 (by decide)]; exact hB.1
        rw [u2, A_144, gd_in (by omega) (by omega), e144, w32_id (x := s.1 - 1) (by omega) (by omega)]
        refine Tr_bnd (D_num hL (LX_B hX g2) S2) ?_
        rintro v U3 ⟨f3, S3⟩
        rw [A_147, gd_in (by omega) (by omega)]
        refine Tr_set (fun V3 e3 n3 => ?_)
        have g3 : fB b V V3 := fB_tr g2 (fB_tr (fB_A f3) (fB_s (by decide) (by unfold oB; omega) e3 n3))
        refine Tr_bnd (D_mustW (i := 3) (t := 259) hL (LX_B hX g3) (by decide) (by decide) (by decide) (St_k S3 (fun j _ _ => by rw [n3 142 (by decide)]))) ?_
        rintro y4 U4 ⟨f4, S4⟩
        have g4 : fB b V U4 := fB_tr g3 (fB_A f4)
        refine Tr_bnd (D_num hL (LX_B hX g4) S4) ?_
        rintro w U5 ⟨f5, S5⟩
        rw [A_148, gd_in (by omega) (by omega)]
        refine Tr_set (fun V5 e5 n5 => ?_)
        have g5 : fB b V V5 := fB_tr g4 (fB_tr (fB_A f5) (fB_s (by decide) (by unfold oB; omega) e5 n5))
        have S5' := St_k (U := V5) S5 (fun j _ _ => by rw [n5 142 (by decide)])
        have r144 : ∀ a, a ≠ 142 → a ≠ 146 → a ≠ 147 → a ≠ 148 → V5 a = V a := fun a a0 a1 a2 a3 => by rw [n5 a a3, f5.1 a a0, f4.1 a a0, n3 a a2, f3.1 a a0, f2.1 a a0, n1 a a1, f1.1 a a0, fU.1 a a0]
        refine Tr_if (fun z8 => ?_) (fun z8 => ?_)
        · rcases S5' with ⟨⟨⟨⟨-, q1, q2⟩, -⟩, -⟩, q4, q5, q6⟩ | ⟨kd, p, -, q2, q3, -⟩
          · have v30 : V5 142 30 = b := by rw [fB_30 g5]; exact h30
            have v145 : V5 145 b = s.2.1.length := by rw [r144 145 (by decide) (by decide) (by decide) (by decide)]; exact h145
            rw [v30, A_145, gd_in (by omega) (by omega), v145, w32_id (x := (s.2.1.length : Int) + 1) (by omega) (by omega)]
            refine Tr_set (fun W eW nW => Tr_ret ⟨fB_tr g5 (fB_s (by decide) (by unfold oB; omega) eW nW), Or.inl ⟨_, _, q6, q4, ?_, fun _ => ?_⟩⟩)
            · unfold rKt rTk at *
              rw [nW 142 (by decide)]
              exact q5
            · have b7 : U4 147 = V3 147 := f4.1 147 (by decide)
              refine gB_p hB (by omega) q2 ?_ ?_ ?_ ?_ (fun a a1 a2 a3 a4 a5 a6 => by rw [nW a a3, r144 a (by omega) a4 a5 a6]) ?_
              · rw [nW 146 (by decide), n5 146 (by decide), f5.1 146 (by decide), f4.1 146 (by decide), n3 146 (by decide), f3.1 146 (by decide), f2.1 146 (by decide), e1, f1.1 146 (by decide), fU.1 146 (by decide), q1]
              · rw [nW 147 (by decide), n5 147 (by decide), f5.1 147 (by decide), b7, e3, f3.1 147 (by decide), f2.1 147 (by decide), n1 147 (by decide), f1.1 147 (by decide), fU.1 147 (by decide)]
              · rw [nW 148 (by decide), e5, f5.1 148 (by decide), f4.1 148 (by decide), n3 148 (by decide), f3.1 148 (by decide), f2.1 148 (by decide), n1 148 (by decide), f1.1 148 (by decide), fU.1 148 (by decide)]
              · rw [eW, r144 145 (by decide) (by decide) (by decide) (by decide)]
              · rw [nW 142 (by decide), n5 142 (by decide), f5.2 29 (by omega), f4.2 29 (by omega), n3 142 (by decide), f3.2 29 (by omega), f2.2 29 (by omega), n1 142 (by decide), f1.2 29 (by omega), fU.2 29 (by omega)]
          · omega
        · refine Tr_ret ⟨g5, ?_⟩
          rcases S5' with ⟨-, q4, q5, q6⟩ | q
          · exact Or.inl ⟨_, _, q6, q4, q5, fun z => absurd z z8⟩
          · exact Or.inr q
      · refine Tr_t y0 (Tr_ret ⟨fB_A fU, Or.inr ?_⟩)
        obtain ⟨q1, q2, q3⟩ := rKt_h rU e8
        exact ⟨1, (tkK T n).2.1 (k + 1), by rw [hRf]; exact frs_b (kH_1 q3), by decide, q1, q2⟩
  unfold f_M_piece
  rw [gd_t O_142, F_142_14, h30, A_145, gd_in (by omega) (by omega), h145]
  exact Tr_if (fun c => key 1 (Or.inl ⟨by decide, by omega⟩)) (fun c => key 0 (Or.inr ⟨rfl, by omega⟩))
theorem R_stucks {T : Int → Int} {n N b k : Int} {s : GS} {V : ASt} (hb : b = 0 ∨ b = 1) (hL : lstK T n N) (hX : LX T n V) (h30 : V 142 30 = b) (hB : gmB b s V) (hk : 0 ≤ k ∧ k < N) (hr : rKt T n k V) (h8 : V 142 8 = 0) :
    Tr (f_M_stucks S0 V 142) (fun _ U => fB b V U ∧ SR T n N b (stS (tkK T n) s k) U) := by
  unfold f_M_stucks
  rw [gd_t O_142]
  refine Tr_bnd (M_counts hL hX hk hr h8) ?_
  rintro y U ⟨fU, hU⟩
  rcases hU with ⟨x0, -⟩ | ⟨-, rU, hy⟩
  · exact absurd rfl x0
  · have hk1 : 0 ≤ k + 1 ∧ k + 1 ≤ N := by omega
    rcases hy with ⟨y1, e8⟩ | ⟨y0, e8⟩
    · refine Tr_f (by omega) ?_
      have hW := K_word rU e8
      have j52 : ∀ x : Int, stkT ((tkK T n).1 (k + 1)) = x → Tr (b_M_stucks_J52 S0 U 142 x) (fun _ W => fB b V W ∧ SR T n N b (stS (tkK T n) s k) W) := by
        intro x hx
        unfold b_M_stucks_J52
        have hsr := stkT_r ((tkK T n).1 (k + 1))
        refine Tr_if (fun c => ?_) (fun c => ?_)
        · refine Tr_bnd (M_blame U 1 (U 142 4)) ?_
          rintro _ W ⟨u1, -, u3, -⟩
          have u3' := u3 (by omega)
          unfold b_M_stucks_J67
          refine Tr_f (by omega) (Tr_ret ⟨fB_tr (fB_A fU) (fB_A u1), Or.inr ⟨1, (tkK T n).2.1 (k + 1), ?_, by decide, u3'.1, by rw [u3'.2]; exact (rKt_K rU e8).2.1⟩⟩)
          unfold stS
          rw [if_pos (by omega)]
        · unfold b_M_stucks_J67
          have hkN : k + 1 < N := K_lt hL hk1.2 (by omega) (by omega)
          refine Tr_t (by omega) (Tr_bnd (M_next (LX_A hX fU) hL ⟨hk1.1, hkN⟩ rU e8) ?_)
          rintro _ W ⟨w1, w2⟩
          have w30 : W 142 30 = b := by rw [w1.2 30 (by omega), fU.2 30 (by omega)]; exact h30
          rw [F_142_18, w30, A_149, gd_in (by omega) (by omega)]
          refine Tr_set (fun Z eZ nZ => Tr_ret ⟨fB_tr (fB_A fU) (fB_tr (fB_A w1) (fB_s (by decide) (by unfold oB; omega) eZ nZ)), Or.inl ⟨k + 1 + 1, addS s (stkT ((tkK T n).1 (k + 1))), ?_, ⟨by omega, by omega⟩, ?_, fun _ => ?_⟩⟩)
          · unfold stS
            rw [if_neg (by omega)]
          · unfold rKt rTk at *
            rw [nZ 142 (by decide)]
            exact w2
          · obtain ⟨b1, b2, b3, b4, b5, b6, b7⟩ := gB_A (gB_A hB fU) w1
            refine ⟨by rw [nZ 144 (by decide)]; exact b1, ?_, by rw [nZ 147 (by decide), nZ 148 (by decide)]; exact b3, by rw [eZ, upI_s, hx]; rfl, by rw [nZ 150 (by decide)]; exact b5, ?_, ?_⟩
            · unfold nmR at *
              rw [nZ 145 (by decide), nZ 146 (by decide)]
              exact b2
            · unfold rlB at *
              rw [nZ 151 (by decide), nZ 152 (by decide), nZ 153 (by decide), nZ 154 (by decide), nZ 155 (by decide), nZ 156 (by decide), nZ 157 (by decide)]
              exact b6
            · unfold cdR at *
              rw [nZ 142 (by decide), nZ 158 (by decide), nZ 159 (by decide)]
              exact b7
      refine Tr_bq (hW 6 465726301555 262 (by decide) (by decide) (by decide)) ?_
      by_cases c1 : (tkK T n).1 (k + 1) = 262
      · rw [if_pos c1]
        exact Tr_f (by decide) (j52 0 (by unfold stkT; rw [if_pos c1]))
      rw [if_neg c1]
      refine Tr_t rfl (Tr_bq (hW 7 431415719795 263 (by decide) (by decide) (by decide)) ?_)
      by_cases c2 : (tkK T n).1 (k + 1) = 263
      · rw [if_pos c2]
        exact Tr_f (by decide) (j52 1 (by unfold stkT; rw [if_neg c1, if_pos c2]))
      rw [if_neg c2]
      refine Tr_t rfl (Tr_bq (hW 8 2003398259 264 (by decide) (by decide) (by decide)) ?_)
      by_cases c3 : (tkK T n).1 (k + 1) = 264
      · rw [if_pos c3]
        exact Tr_f (by decide) (j52 2 (by unfold stkT; rw [if_neg c1, if_neg c2, if_pos c3]))
      rw [if_neg c3]
      exact Tr_t rfl (j52 (-1) (by unfold stkT; rw [if_neg c1, if_neg c2, if_neg c3]))
    · refine Tr_t y0 (Tr_ret ⟨fB_A fU, Or.inr ?_⟩)
      obtain ⟨q1, q2, q3⟩ := rKt_h rU e8
      refine ⟨1, (tkK T n).2.1 (k + 1), ?_, by decide, q1, q2⟩
      have h1 : (tkK T n).1 (k + 1) = 1 := kH_1 q3
      unfold stS
      rw [h1, if_pos (by decide)]
