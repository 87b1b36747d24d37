/-! the reference's cells hold the machine: single deeds -/
def fmV (b : Int) (V U : ASt) : Prop := (∀ a, a ≠ 142 → (a < 158 ∨ 165 < a) → U a = V a) ∧ (∀ k, (k < 3 ∨ 9 < k) → k ≠ 29 → k ≠ 36 → k ≠ 37 → k ≠ 39 → k ≠ 40 → U 142 k = V 142 k) ∧ (∀ i, (i < 1800 * b ∨ 1800 * b + 1800 ≤ i) → U 158 i = V 158 i ∧ U 159 i = V 159 i)
theorem fmV_rfl (b : Int) (V : ASt) : fmV b V V := ⟨fun _ _ _ => rfl, fun _ _ _ _ _ _ _ => rfl, fun _ _ => ⟨rfl, rfl⟩⟩
theorem fmV_tr {b : Int} {V U W : ASt} (h : fmV b V U) (h2 : fmV b U W) : fmV b V W := ⟨fun a a1 a2 => by rw [h2.1 a a1 a2, h.1 a a1 a2], fun k a1 a2 a3 a4 a5 a6 => by rw [h2.2.1 k a1 a2 a3 a4 a5 a6, h.2.1 k a1 a2 a3 a4 a5 a6], fun i hi => by rw [(h2.2.2 i hi).1, (h2.2.2 i hi).2]; exact h.2.2 i hi⟩
theorem fmV_A {b : Int} {V U : ASt} (h : frA V U) : fmV b V U := ⟨fun a a1 _ => h.1 a a1, fun k a1 _ _ _ _ _ => h.2 k a1, fun i _ => by rw [h.1 158 (by decide), h.1 159 (by decide)]; exact ⟨rfl, rfl⟩⟩
/-- cells beside the rows of code are changed -/
theorem fmV_n {b : Int} {V U : ASt} (h : ∀ a, a ≠ 142 → (a < 160 ∨ 165 < a) → U a = V a) (h2 : ∀ k, (k < 3 ∨ 9 < k) → k ≠ 29 → k ≠ 36 → k ≠ 37 → k ≠ 39 → k ≠ 40 → U 142 k = V 142 k) : fmV b V U := ⟨fun a a1 a2 => h a a1 (by omega), h2, fun i _ => by rw [h 158 (by decide) (by decide), h 159 (by decide) (by decide)]; exact ⟨rfl, rfl⟩⟩
def fmR (V : ASt) : List FR → Prop
  | [] => True
  | F :: r => (V 160 r.length = F.1 ∧ V 161 r.length = F.2.1 ∧ V 162 r.length = F.2.2.1 ∧ (F.2.2.1 = 0 ∨ F.2.2.1 = 1) ∧ ((F.1 = 3 ∨ F.1 = 4) → V 163 r.length = F.2.2.2.1) ∧ V 164 r.length = F.2.2.2.2 ∧ 0 ≤ F.2.2.2.2) ∧ fmR V r
theorem fmR_k {V U : ASt} : ∀ fs : List FR, (∀ a i : Int, 160 ≤ a → a ≤ 164 → 0 ≤ i → i < fs.length → U a i = V a i) → fmR V fs → fmR U fs := by
  intro fs
  induction fs with
  | nil => intro _ _; exact trivial
  | cons F r ih =>
    intro h g
    obtain ⟨⟨g1, g2, g3, g4, g5, g6, g7⟩, g8⟩ := g
    have hr : (r.length : Int) < ((F :: r).length : Int) := by simp only [List.length_cons]; omega
    refine ⟨⟨?_, ?_, ?_, g4, fun z => ?_, ?_, g7⟩, ih (fun a i a1 a2 i1 i2 => h a i a1 a2 i1 (by omega)) g8⟩
    · rw [h 160 _ (by decide) (by decide) (by omega) hr]; exact g1
    · rw [h 161 _ (by decide) (by decide) (by omega) hr]; exact g2
    · rw [h 162 _ (by decide) (by decide) (by omega) hr]; exact g3
    · rw [h 163 _ (by decide) (by decide) (by omega) hr]; exact g5 z
    · rw [h 164 _ (by decide) (by decide) (by omega) hr]; exact g6
def cdR (b : Int) (cs : CDs) (V : ASt) : Prop := V 142 29 = cs.length ∧ ∀ i : Nat, i < cs.length → V 158 (1800 * b + i) = (cs.getD i (0, 0)).1 ∧ V 159 (1800 * b + i) = (cs.getD i (0, 0)).2
def nmR (b : Int) (ns : List (List Int)) (V : ASt) : Prop := V 145 b = ns.length ∧ ns.length ≤ 2 ∧ ∀ i : Nat, i < ns.length → V 146 (2 * b + i) = nm256 (ns.getD i []) 0 ∧ nmL (ns.getD i [])
def M1 (T : Int → Int) (n b : Int) (ns : List (List Int)) (fs : List FR) (os : List Int) (cs : CDs) (V : ASt) : Prop := LX T n V ∧ V 142 36 = fs.length ∧ V 142 37 = (fs.length : Int) - 1 ∧ V 142 39 = os.length ∧ stkR (V 165) os ∧ fmR V fs ∧ cdR b cs V ∧ V 142 30 = b ∧ nmR b ns V
def M0 (T : Int → Int) (n b : Int) (ns : List (List Int)) (k : Int) (fs : List FR) (os : List Int) (cs : CDs) (V : ASt) : Prop := rKt T n k V ∧ (V 142 8 = 0 → M1 T n b ns fs os cs V)
def fmT (V U : ASt) : Prop := ∀ j, ((3 ≤ j ∧ j ≤ 9) ∨ j = 40) → U 142 j = V 142 j
theorem fmT_rfl (V : ASt) : fmT V V := fun _ _ => rfl
theorem fmT_tr {V U W : ASt} (h : fmT V U) (h2 : fmT U W) : fmT V W := fun j hj => by rw [h2 j hj, h j hj]
theorem rKt_k {T : Int → Int} {n k : Int} {V U : ASt} (h : rKt T n k V) (f : fmT V U) : rKt T n k U := by
  unfold rKt rTk at *
  rw [f 8 (by omega), f 9 (by omega), f 4 (by omega), f 5 (by omega), f 3 (by omega), f 6 (by omega), f 7 (by omega)]
  exact h
theorem nmR_k {b : Int} {ns : List (List Int)} {V U : ASt} (h : nmR b ns V) (f : fmV b V U) : nmR b ns U := by
  unfold nmR at *
  rw [f.1 145 (by decide) (by decide), f.1 146 (by decide) (by decide)]
  exact h
theorem LX_V {T : Int → Int} {n b : Int} {V U : ASt} (h : LX T n V) (f : fmV b V U) : LX T n U := ⟨by rw [f.2.1 2 (by omega) (by decide) (by decide) (by decide) (by decide) (by decide)]; exact h.1, h.2.1, fun i i0 i1 => by rw [f.1 143 (by decide) (by decide)]; exact h.2.2 i i0 i1⟩
theorem M1_A {T : Int → Int} {n b : Int} {ns : List (List Int)} {fs : List FR} {os : List Int} {cs : CDs} {V U : ASt} (h : M1 T n b ns fs os cs V) (f : frA V U) : M1 T n b ns fs os cs U := by
  obtain ⟨h1, h2, h3, h4, h5, h6, h7, h8, h9⟩ := h
  refine ⟨LX_A h1 f, by rw [f.2 36 (by omega)]; exact h2, by rw [f.2 37 (by omega)]; exact h3, by rw [f.2 39 (by omega)]; exact h4, by rw [f.1 165 (by decide)]; exact h5, fmR_k fs (fun a i a1 a2 _ _ => by rw [f.1 a (by omega)]) h6, ?_, by rw [f.2 30 (by omega)]; exact h8, nmR_k h9 (fmV_A f)⟩
  unfold cdR at *
  rw [f.2 29 (by omega), f.1 158 (by decide), f.1 159 (by decide)]
  exact h7
/-- only the row of frames is changed -/
theorem M1_F {T : Int → Int} {n b : Int} {ns : List (List Int)} {fs fs' : List FR} {os : List Int} {cs : CDs} {V U : ASt} (h : M1 T n b ns fs os cs V) (f : ∀ a, (a < 160 ∨ 164 < a) → U a = V a) (hl : fs'.length = fs.length) (hf : fmR U fs') : M1 T n b ns fs' os cs U := by
  obtain ⟨h1, h2, h3, h4, h5, h6, h7, h8, h9⟩ := h
  unfold M1 LX cdR nmR at *
  rw [f 142 (by decide), f 143 (by decide), f 165 (by decide), f 158 (by decide), f 159 (by decide), f 145 (by decide), f 146 (by decide), hl]
  exact ⟨h1, h2, h3, h4, h5, hf, h7, h8, h9⟩
theorem M_add {T : Int → Int} {n b x v : Int} {ns : List (List Int)} {fs : List FR} {os : List Int} {cs : CDs} {V : ASt} (hb : b = 0 ∨ b = 1) (h : M1 T n b ns fs os cs V) (hc : (cs.length : Int) < 1800) : Tr (f_M_add S0 V 142 x v) (fun _ U => M1 T n b ns fs os (cs ++ [(x, v)]) U ∧ fmV b V U ∧ fmT V U ∧ U 165 = V 165 ∧ (∀ k, k ≠ 29 → U 142 k = V 142 k) ∧ (∀ a, 160 ≤ a → U a = V a)) := by
  obtain ⟨h1, h2, h3, h4, h5, h6, h7, h8, h9⟩ := h
  unfold f_M_add
  rw [gd_t O_142, F_142_27, F_142_28, h8, h7.1, w32_id (x := 1800 * b) (by omega) (by omega), w32_id (x := 1800 * b + (cs.length : Int)) (by omega) (by omega), A_158, gd_in (by omega) (by omega)]
  refine Tr_set (fun V1 e1 n1 => ?_)
  rw [n1 142 (by decide), h8, h7.1, w32_id (x := 1800 * b) (by omega) (by omega), w32_id (x := 1800 * b + (cs.length : Int)) (by omega) (by omega), A_159, gd_in (by omega) (by omega)]
  refine Tr_set (fun V2 e2 n2 => ?_)
  rw [n2 142 (by decide), n1 142 (by decide), h7.1, w32_id (x := (cs.length : Int) + 1) (by omega) (by omega)]
  refine Tr_set (fun U e3 n3 => Tr_ret ?_)
  have e142 : ∀ k, k ≠ 29 → U 142 k = V 142 k := fun k hk => by rw [e3, upI_n _ _ hk, n2 142 (by decide), n1 142 (by decide)]
  have eo : ∀ a, a ≠ 142 → a ≠ 158 → a ≠ 159 → U a = V a := fun a a1 a2 a3 => by rw [n3 a a1, n2 a a3, n1 a a2]
  have e158 : U 158 = upI (V 158) (1800 * b + (cs.length : Int)) x := by rw [n3 158 (by decide), n2 158 (by decide), e1]
  have e159 : U 159 = upI (V 159) (1800 * b + (cs.length : Int)) v := by rw [n3 159 (by decide), e2, n1 159 (by decide)]
  have fr : fmV b V U := ⟨fun a a1 a2 => eo a a1 (by omega) (by omega), fun k _ a2 _ _ _ _ => e142 k a2, fun i hi => by rw [e158, e159, upI_n _ _ (by omega), upI_n _ _ (by omega)]; exact ⟨rfl, rfl⟩⟩
  refine ⟨⟨LX_V h1 fr, by rw [e142 36 (by decide)]; exact h2, by rw [e142 37 (by decide)]; exact h3, by rw [e142 39 (by decide)]; exact h4, by rw [eo 165 (by decide) (by decide) (by decide)]; exact h5, fmR_k fs (fun a i a1 a2 _ _ => by rw [eo a (by omega) (by omega) (by omega)]) h6, ⟨?_, fun i hi => ?_⟩, by rw [e142 30 (by decide)]; exact h8, nmR_k h9 fr⟩, fr, fun j hj => e142 j (by omega), eo 165 (by decide) (by decide) (by decide), e142, fun a ha => eo a (by omega) (by omega) (by omega)⟩
  · rw [e3, upI_s]
    simp only [List.length_append, List.length_cons, List.length_nil]
    omega
  · rw [e158, e159]
    by_cases c : i < cs.length
    · rw [upI_n _ _ (by omega), upI_n _ _ (by omega), List.getD_eq_getElem?_getD, List.getElem?_append_left c, ← List.getD_eq_getElem?_getD]
      exact h7.2 i c
    · have hi' : i = cs.length := by simp only [List.length_append, List.length_cons, List.length_nil] at hi; omega
      subst hi'
      rw [upI_s, upI_s, List.getD_eq_getElem?_getD, List.getElem?_append_right (Nat.le_refl _), Nat.sub_self]
      exact ⟨rfl, rfl⟩
theorem M_rank (V : ASt) (x : Int) : f_M_rank S0 V x = some (rkO x, V) := by
  unfold f_M_rank rkO
  by_cases h1 : x = 21
  · rw [if_pos h1, if_pos h1]
  rw [if_neg h1, if_neg h1]
  by_cases h2 : x = 20
  · rw [if_pos h2, if_pos h2]
  rw [if_neg h2, if_neg h2]
  by_cases h3 : x = 22
  · rw [if_pos h3, if_pos h3]
  rw [if_neg h3, if_neg h3]
  by_cases h4 : x = 17
  · rw [if_pos h4, if_pos h4]
  rw [if_neg h4, if_neg h4]
  by_cases h5 : x = 18
  · rw [if_pos h5, if_pos h5]
  rw [if_neg h5, if_neg h5]
  by_cases h6 : x = 19
  · rw [if_pos h6, if_pos h6]
  rw [if_neg h6, if_neg h6]
  by_cases h7 : x = 10
  · rw [if_pos h7, if_pos h7]
  rw [if_neg h7, if_neg h7]
  by_cases h8 : x = 11
  · rw [if_pos h8, if_pos h8]
  rw [if_neg h8, if_neg h8]
theorem M_joinL {T : Int → Int} {n b bs l : Int} {ns : List (List Int)} {F : FR} {r : List FR} (hb : b = 0 ∨ b = 1) (hr : (r.length : Int) ≤ 8) (hF : F.2.2.2.2 = bs) : ∀ (os : List Int) (cs : CDs) (V : ASt) (f : Nat), os.length < f → M1 T n b ns (F :: r) os cs V → os.length ≤ 500 → (cs.length : Int) + os.length ≤ 1800 →
    Tr (b_M_joins_L0 S0 142 l f V) (fun _ U => M1 T n b ns (F :: r) (jnO bs l os cs).1 (jnO bs l os cs).2 U ∧ fmV b V U ∧ fmT V U) := by
  intro os
  induction os with
  | nil =>
    intro cs V f hf h hl hc
    obtain ⟨g, rfl⟩ : ∃ g, f = g + 1 := ⟨f - 1, by omega⟩
    have h36 : V 142 36 = (r.length : Int) + 1 := by rw [h.2.1, List.length_cons]; omega
    have hbs := h.2.2.2.2.2.1.1.2.2.2.2.2
    rw [b_M_joins_L0, h36, w32_id (x := (r.length : Int) + 1 - 1) (by omega) (by omega), show (r.length : Int) + 1 - 1 = (r.length : Int) by omega, F_142_35, A_164, gd_in (by omega) (by omega), hbs.1, h.2.2.2.1]
    refine Tr_t ?_ (Tr_ret ⟨h, fmV_rfl b V, fmT_rfl V⟩)
    have := hbs.2
    simp only [List.length_nil]
    omega
  | cons op os ih =>
    intro cs V f hf h hl hc
    obtain ⟨g, rfl⟩ : ∃ g, f = g + 1 := ⟨f - 1, by omega⟩
    have h36 : V 142 36 = (r.length : Int) + 1 := by rw [h.2.1, List.length_cons]; omega
    have hbs := h.2.2.2.2.2.1.1.2.2.2.2.2
    have hop : V 165 (os.length : Int) = op := h.2.2.2.2.1.1
    have hlen : ((op :: os).length : Int) = (os.length : Int) + 1 := by simp only [List.length_cons]; omega
    have hl' : os.length + 1 ≤ 500 := hl
    rw [b_M_joins_L0, h36, w32_id (x := (r.length : Int) + 1 - 1) (by omega) (by omega), show (r.length : Int) + 1 - 1 = (r.length : Int) by omega, F_142_35, F_142_38, A_164, gd_in (by omega) (by omega), hbs.1, h.2.2.2.1, hlen, hF]
    refine Tr_if (fun c => ?_) (fun c => ?_)
    · rw [jnO, if_neg (fun z => by rw [hlen] at z; omega)]
      exact Tr_ret ⟨h, fmV_rfl b V, fmT_rfl V⟩
    · rw [w32_id (x := (os.length : Int) + 1 - 1) (by omega) (by omega), show (os.length : Int) + 1 - 1 = (os.length : Int) by omega, A_165, gd_in (by omega) (by omega), hop]
      refine Tr_bq (M_rank V op) ?_
      refine Tr_if (fun d => ?_) (fun d => ?_)
      · rw [jnO, if_neg (fun z => by omega)]
        exact Tr_ret ⟨h, fmV_rfl b V, fmT_rfl V⟩
      · rw [jnO, if_pos ⟨by rw [hlen]; omega, by omega⟩, h.2.2.2.1, hlen, w32_id (x := (os.length : Int) + 1 - 1) (by omega) (by omega), show (os.length : Int) + 1 - 1 = (os.length : Int) by omega]
        refine Tr_set (fun V1 e1 n1 => ?_)
        have f1 : fmV b V V1 := ⟨fun a a1 _ => n1 a a1, fun k _ _ _ _ a5 _ => by rw [e1, upI_n _ _ a5], fun i _ => by rw [n1 158 (by decide), n1 159 (by decide)]; exact ⟨rfl, rfl⟩⟩
        have t1 : fmT V V1 := fun j hj => by rw [e1, upI_n _ _ (by omega)]
        have hM1 : M1 T n b ns (F :: r) os cs V1 := by
          obtain ⟨g1, g2, g3, g4, g5, g6, g7, g8, g9⟩ := h
          refine ⟨LX_V g1 f1, by rw [e1, upI_n _ _ (by decide)]; exact g2, by rw [e1, upI_n _ _ (by decide)]; exact g3, by rw [e1, upI_s], by rw [n1 165 (by decide)]; exact g5.2, fmR_k _ (fun a i a1 a2 _ _ => by rw [n1 a (by omega)]) g6, ?_, by rw [e1, upI_n _ _ (by decide)]; exact g8, nmR_k g9 f1⟩
          unfold cdR at *
          rw [e1, upI_n _ _ (by decide), n1 158 (by decide), n1 159 (by decide)]
          exact g7
        rw [hM1.2.2.2.1, A_165, gd_in (by omega) (by omega), n1 165 (by decide), hop]
        refine Tr_bnd (M_add hb hM1 (by omega)) ?_
        rintro _ U ⟨u1, u2, u3, -⟩
        refine Tr_mono (ih (cs ++ [(op, 0)]) U g (by simp only [List.length_cons] at hf; omega) u1 (by omega) (by simp only [List.length_append, List.length_cons, List.length_nil]; omega)) (fun _ W hW => ⟨hW.1, fmV_tr (fmV_tr f1 u2) hW.2.1, fmT_tr (fmT_tr t1 u3) hW.2.2⟩)
theorem M_join {T : Int → Int} {n b bs l : Int} {ns : List (List Int)} {F : FR} {r : List FR} {os : List Int} {cs : CDs} {V : ASt} (hb : b = 0 ∨ b = 1) (h : M1 T n b ns (F :: r) os cs V) (hr : (r.length : Int) ≤ 8) (hF : F.2.2.2.2 = bs) (hl : os.length ≤ 500) (hc : (cs.length : Int) + os.length ≤ 1800) :
    Tr (f_M_joins S0 V 142 l) (fun _ U => M1 T n b ns (F :: r) (jnO bs l os cs).1 (jnO bs l os cs).2 U ∧ fmV b V U ∧ fmT V U) := by
  unfold f_M_joins
  rw [gd_t O_142]
  exact M_joinL hb hr hF os cs V FU (by rw [FU_v]; omega) h hl hc
theorem M_hold {T : Int → Int} {n b op : Int} {ns : List (List Int)} {fs : List FR} {os : List Int} {cs : CDs} {V : ASt} (h : M1 T n b ns fs os cs V) (hl : os.length < 500) : Tr (f_M_holdsBack S0 V 142 op) (fun _ U => M1 T n b ns fs (op :: os) cs U ∧ fmV b V U ∧ fmT V U) := by
  obtain ⟨g1, g2, g3, g4, g5, g6, g7, g8, g9⟩ := h
  unfold f_M_holdsBack
  rw [gd_t O_142, F_142_38, g4, A_165, gd_in (by omega) (by omega)]
  refine Tr_set (fun V1 e1 n1 => ?_)
  rw [n1 142 (by decide), g4, w32_id (x := (os.length : Int) + 1) (by omega) (by omega)]
  refine Tr_set (fun U e2 n2 => Tr_ret ?_)
  have e142 : ∀ k, k ≠ 39 → U 142 k = V 142 k := fun k hk => by rw [e2, upI_n _ _ hk, n1 142 (by decide)]
  have eo : ∀ a, a ≠ 142 → a ≠ 165 → U a = V a := fun a a1 a2 => by rw [n2 a a1, n1 a a2]
  have fr : fmV b V U := ⟨fun a a1 a2 => eo a a1 (by omega), fun k _ _ _ _ a5 _ => e142 k a5, fun i _ => by rw [eo 158 (by decide) (by decide), eo 159 (by decide) (by decide)]; exact ⟨rfl, rfl⟩⟩
  refine ⟨⟨LX_V g1 fr, by rw [e142 36 (by decide)]; exact g2, by rw [e142 37 (by decide)]; exact g3, by rw [e2, upI_s, List.length_cons]; omega, by rw [n2 165 (by decide), e1]; exact stkR_p g5, fmR_k fs (fun a i a1 a2 _ _ => by rw [eo a (by omega) (by omega)]) g6, ?_, by rw [e142 30 (by decide)]; exact g8, nmR_k g9 fr⟩, fr, fun j hj => e142 j (by omega)⟩
  unfold cdR at *
  rw [e142 29 (by decide), eo 158 (by decide) (by decide), eo 159 (by decide) (by decide)]
  exact g7
theorem M_named {b : Int} {ns : List (List Int)} {ls : List Int} {V : ASt} (hb : b = 0 ∨ b = 1) (h30 : V 142 30 = b) (h : nmR b ns V) (hl : nmL ls) : f_M_named S0 V 142 (nm256 ls 0) = some (pixF ls ns 0, V) := by
  unfold f_M_named
  rw [gd_t O_142]
  have hlp : ∀ (f j : Nat), j ≤ ns.length → ns.length - j < f → b_M_named_L2 S0 142 (nm256 ls 0) f V (j : Int) = some (pixF ls (ns.drop j) (j : Int), V) := by
    intro f
    induction f with
    | zero => intro j h1 h2; omega
    | succ f ih =>
      intro j h1 h2
      have h2' := h.2.1
      rw [b_M_named_L2, h30, F_142_14, F_142_15, A_145, gd_in (by omega) (by omega), h.1]
      by_cases c : (ns.length : Int) ≤ j
      · rw [if_pos c, List.drop_eq_nil_of_le (by omega), pixF]
      · have hj : j < ns.length := by omega
        have hnj := h.2.2 j hj
        have hgj : ns.getD j [] = ns[j] := by rw [List.getD_eq_getElem?_getD, List.getElem?_eq_getElem hj]; rfl
        rw [hgj] at hnj
        rw [if_neg c, w32_id (x := 2 * b) (by omega) (by omega), w32_id (x := 2 * b + (j : Int)) (by omega) (by omega), A_146, gd_in (by omega) (by omega), hnj.1, List.drop_eq_getElem_cons hj, pixF]
        by_cases d : ns[j] = ls
        · rw [if_pos d, if_pos ((cmp_0 _ _).mpr (by rw [d]))]
        · rw [if_neg d, if_neg (fun z => d (nm256_i hnj.2 hl ((cmp_0 _ _).mp z))), w32_id (x := (j : Int) + 1) (by omega) (by omega), show (j : Int) + 1 = ((j + 1 : Nat) : Int) by omega]
          exact ih (j + 1) (by omega) (by omega)
  have := hlp FU 0 (by omega) (by have := h.2.1; rw [FU_v]; omega)
  rw [List.drop_zero] at this
  exact this
