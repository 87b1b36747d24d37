/-! the reference's statements: the smallest deeds -/
def Flt (R : PR) (V : ASt) : Prop := ∃ kd p : Int, R = Sum.inl (kd, p) ∧ 0 < kd ∧ V 142 8 = kd ∧ V 142 9 = p
def St (T : Int → Int) (n N : Int) (P : Prop) (k : Int) (R F : PR) (V : ASt) : Prop := (P ∧ (0 ≤ k ∧ k ≤ N) ∧ rKt T n k V ∧ R = F) ∨ Flt R V
theorem Flt_k {R : PR} {V U : ASt} (h : Flt R V) (h8 : U 142 8 = V 142 8) (h9 : U 142 9 = V 142 9) : Flt R U := by
  obtain ⟨kd, p, a, b, c, d⟩ := h
  exact ⟨kd, p, a, b, by rw [h8]; exact c, by rw [h9]; exact d⟩
theorem St_k {T : Int → Int} {n N k : Int} {P : Prop} {R F : PR} {V U : ASt} (h : St T n N P k R F V) (f : ∀ j, 3 ≤ j → j ≤ 9 → U 142 j = V 142 j) : St T n N P k R F U := by
  rcases h with ⟨a, b, c, d⟩ | h
  · refine Or.inl ⟨a, b, ?_, d⟩
    unfold rKt rTk at *
    rw [f 8 (by decide) (by decide), f 9 (by decide) (by decide), f 4 (by decide) (by decide), f 5 (by decide) (by decide), f 3 (by decide) (by decide), f 6 (by decide) (by decide), f 7 (by decide) (by decide)]
    exact c
  · exact Or.inr (Flt_k h (f 8 (by decide) (by decide)) (f 9 (by decide) (by decide)))
theorem St_P {T : Int → Int} {n N k : Int} {P Q : Prop} {R F : PR} {V : ASt} (h : St T n N P k R F V) (hq : P → Q) : St T n N Q k R F V := by
  rcases h with ⟨a, b⟩ | h
  · exact Or.inl ⟨hq a, b⟩
  · exact Or.inr h
/-- no fault yet, or a fault -/
theorem St_n {T : Int → Int} {n N k : Int} {P : Prop} {R F : PR} {V : ASt} (h : St T n N P k R F V) (hF : (tkK T n).1 k = 1 → F = Sum.inl (1, (tkK T n).2.1 k)) : (V 142 8 = 0 ∧ P ∧ (0 ≤ k ∧ k ≤ N) ∧ rKt T n k V ∧ R = F) ∨ (0 < V 142 8 ∧ Flt R V) := by
  rcases h with ⟨a, b, c, d⟩ | h
  · by_cases h8 : V 142 8 = 0
    · exact Or.inl ⟨h8, a, b, c, d⟩
    · obtain ⟨e8, e9, eH⟩ := rKt_h c h8
      have := hF (kH_1 eH)
      exact Or.inr ⟨by omega, 1, (tkK T n).2.1 k, by rw [d, this], by decide, e8, e9⟩
  · have h' := h
    obtain ⟨kd, p, e1, e2, e3, e4⟩ := h
    exact Or.inr ⟨by omega, h'⟩
theorem tkw_b {K : TKs} {t k : Int} {f : Int → PR} (ht : t ≠ 1) (h : K.1 k = 1) : tkw K t k f = Sum.inl (1, K.2.1 k) := by unfold tkw; rw [if_neg (by omega)]
theorem nmb_b {K : TKs} {lo hi k : Int} {f : Int → Int → PR} (h : K.1 k = 1) : nmb K lo hi k f = Sum.inl (1, K.2.1 k) := by unfold nmb; rw [if_neg (by omega)]
theorem frs_b {K : TKs} {ns : List (List Int)} {k : Int} {f : Int → List Int → PR} (h : K.1 k = 1) : frs K ns k f = Sum.inl (1, K.2.1 k) := by unfold frs; rw [if_neg (by omega)]
theorem ask_b {K : TKs} {ns : List (List Int)} {k : Int} {f : Int → Int → PR} (h : K.1 k = 1) : ask K ns k f = Sum.inl (1, K.2.1 k) := by unfold ask; rw [if_neg (by omega)]
theorem Flt_b {V U : ASt} {R : PR} {kd p : Int} (hR : R = Sum.inl (kd, p)) (h0 : 0 < kd) (h8 : U 142 8 = kd) (h9 : U 142 9 = p) : Flt R U := ⟨kd, p, hR, h0, h8, h9⟩
theorem D_mustW {T : Int → Int} {n N k t x : Int} {i : Nat} {P : Prop} {R : PR} {g : Int → PR} {V : ASt} (hL : lstK T n N) (hX : LX T n V) (hi : i < 23) (hx : x = nm256 (ownW.getD i []) 0) (ht : t = 256 + (i : Int)) (h : St T n N P k R (tkw (tkK T n) t k g) V) :
    Tr (f_M_must_J S0 V 142 x) (fun _ U => frA V U ∧ St T n N P (k + 1) R (g (k + 1)) U) := by
  unfold f_M_must_J
  rw [gd_t O_142]
  rcases St_n h (tkw_b (by omega)) with ⟨h8, hP, hk, hr, hR⟩ | ⟨h8, hF⟩
  · refine Tr_t (by omega) (Tr_bq (K_word hr h8 i x t hi hx ht) ?_)
    unfold tkw at hR
    by_cases c : (tkK T n).1 k = t
    · rw [if_pos c] at hR ⊢
      have hkN : k < N := K_lt hL hk.2 (by omega) (by omega)
      refine Tr_f (by decide) ?_
      unfold b_M_must_J_J25
      refine Tr_t h8 (Tr_bnd (M_next hX hL ⟨hk.1, hkN⟩ hr h8) ?_)
      rintro _ U ⟨u1, u2⟩
      exact Tr_ret ⟨u1, Or.inl ⟨hP, ⟨by omega, by omega⟩, u2, hR⟩⟩
    · rw [if_neg c] at hR ⊢
      refine Tr_t rfl (Tr_bnd (M_blame V 1 (V 142 4)) ?_)
      rintro _ U ⟨u1, -, u3, -⟩
      have u3' := u3 (by omega)
      unfold b_M_must_J_J25
      exact Tr_f (by omega) (Tr_ret ⟨u1, Or.inr ⟨1, _, hR, by decide, u3'.1, by rw [u3'.2]; exact (rKt_K hr h8).2.1⟩⟩)
  · exact Tr_f (by omega) (Tr_ret ⟨frA_rfl V, Or.inr hF⟩)
theorem D_num {T : Int → Int} {n N k lo hi : Int} {P : Prop} {R : PR} {g : Int → Int → PR} {V : ASt} (hL : lstK T n N) (hX : LX T n V) (h : St T n N P k R (nmb (tkK T n) lo hi k g) V) :
    Tr (f_M_number S0 V 142 lo hi) (fun y U => frA V U ∧ St T n N (P ∧ lo ≤ y ∧ y ≤ hi) (k + 1) R (g (k + 1) y) U) := by
  unfold f_M_number
  rw [gd_t O_142]
  rcases St_n h nmb_b with ⟨h8, hP, hk, hr, hR⟩ | ⟨h8, hF⟩
  · refine Tr_t (by omega) ?_
    unfold nmb at hR
    obtain ⟨-, hP4, hD⟩ := rKt_K hr h8
    by_cases c : (tkK T n).1 k = 3
    · have h3 : V 142 3 = 2 ∧ V 142 6 = (tkK T n).2.2.2 k := by
        rcases hD with ⟨d, _⟩ | ⟨d, _⟩ | ⟨_, d2, d3⟩ | ⟨d, _⟩ | ⟨d, _⟩
        · omega
        · omega
        · exact ⟨d2, d3⟩
        · unfold sgn at d; omega
        · omega
      rw [if_pos c] at hR
      refine Tr_t h3.1 ?_
      unfold b_M_number_J26
      refine Tr_t h8 (Tr_bq (M_is V (V 142 6) lo hi) ?_)
      rw [h3.2]
      by_cases d : lo ≤ (tkK T n).2.2.2 k ∧ (tkK T n).2.2.2 k ≤ hi
      · rw [if_pos d] at hR ⊢
        have hkN : k < N := K_lt hL hk.2 (by omega) (by omega)
        refine Tr_f (by decide) ?_
        unfold b_M_number_J54
        refine Tr_t h8 (Tr_bnd (M_next hX hL ⟨hk.1, hkN⟩ hr h8) ?_)
        rintro _ U ⟨u1, u2⟩
        refine Tr_ret ⟨u1, Or.inl ⟨⟨hP, by rw [h3.2]; exact d.1, by rw [h3.2]; exact d.2⟩, ⟨by omega, by omega⟩, u2, by rw [h3.2]; exact hR⟩⟩
      · rw [if_neg d] at hR ⊢
        refine Tr_t rfl (Tr_bnd (M_blame V 4 (V 142 4)) ?_)
        rintro _ U ⟨u1, -, u3, -⟩
        have u3' := u3 (by omega)
        unfold b_M_number_J54
        exact Tr_f (by omega) (Tr_ret ⟨u1, Or.inr ⟨4, _, hR, by decide, u3'.1, by rw [u3'.2]; exact hP4⟩⟩)
    · have h3 : V 142 3 ≠ 2 := by
        rcases hD with ⟨_, d⟩ | ⟨_, d, _⟩ | ⟨d, _⟩ | ⟨_, d⟩ | ⟨_, d⟩
        · omega
        · omega
        · omega
        · omega
        · omega
      rw [if_neg c] at hR
      refine Tr_f h3 (Tr_bnd (M_blame V 1 (V 142 4)) ?_)
      rintro _ U ⟨u1, -, u3, -⟩
      have u3' := u3 (by omega)
      unfold b_M_number_J26
      refine Tr_f (by omega) ?_
      unfold b_M_number_J54
      exact Tr_f (by omega) (Tr_ret ⟨u1, Or.inr ⟨1, _, hR, by decide, u3'.1, by rw [u3'.2]; exact hP4⟩⟩)
  · exact Tr_f (by omega) (Tr_ret ⟨frA_rfl V, Or.inr hF⟩)
/-- of a token whether it is a name -/
theorem K_name {T : Int → Int} {n k : Int} {V : ASt} (h : rKt T n k V) (h8 : V 142 8 = 0) : ((tkK T n).1 k = 2 ∧ V 142 3 = 1 ∧ V 142 7 = nm256 ((tkK T n).2.2.1 k) 0 ∧ nmL ((tkK T n).2.2.1 k) ∧ f_M_isOwn S0 V 142 (V 142 7) = some (0, V)) ∨ ((tkK T n).1 k ≠ 2 ∧ (V 142 3 = 1 → f_M_isOwn S0 V 142 (V 142 7) = some (1, V))) := by
  obtain ⟨-, -, hD⟩ := rKt_K h h8
  by_cases c : (tkK T n).1 k = 2
  · rcases hD with ⟨d, _⟩ | ⟨d1, d2, d3, d4, d5⟩ | ⟨d, _⟩ | ⟨d, _⟩ | ⟨d, _⟩
    · omega
    · have := M_isOwn h h8 d2
      rw [show (if kT T n k = 2 then (0 : Int) else 1) = 0 from if_pos c] at this
      exact Or.inl ⟨c, d2, d4, d5, this⟩
    · omega
    · unfold sgn at d; omega
    · omega
  · refine Or.inr ⟨c, fun z => ?_⟩
    have := M_isOwn h h8 z
    rw [show (if kT T n k = 2 then (0 : Int) else 1) = 1 from if_neg c] at this
    exact this
theorem D_fresh {T : Int → Int} {n N b k : Int} {ns : List (List Int)} {P : Prop} {R : PR} {g : Int → List Int → PR} {V : ASt} (hb : b = 0 ∨ b = 1) (hL : lstK T n N) (hX : LX T n V) (h30 : V 142 30 = b) (hnm : nmR b ns V) (h : St T n N P k R (frs (tkK T n) ns k g) V) :
    Tr (f_M_fresh S0 V 142) (fun y U => frA V U ∧ St T n N (P ∧ y = nm256 ((tkK T n).2.2.1 k) 0 ∧ nmL ((tkK T n).2.2.1 k)) (k + 1) R (g (k + 1) ((tkK T n).2.2.1 k)) U) := by
  unfold f_M_fresh
  rw [gd_t O_142]
  rcases St_n h frs_b with ⟨h8, hP, hk, hr, hR⟩ | ⟨h8, hF⟩
  · have hP4 := (rKt_K hr h8).2.1
    refine Tr_t (by omega) ?_
    unfold frs at hR
    have bad : (tkK T n).1 k ≠ 2 → Tr (b_M_fresh_J28 S0 V 142) (fun y U => frA V U ∧ St T n N (P ∧ y = nm256 ((tkK T n).2.2.1 k) 0 ∧ nmL ((tkK T n).2.2.1 k)) (k + 1) R (g (k + 1) ((tkK T n).2.2.1 k)) U) := by
      intro c
      rw [if_neg c] at hR
      unfold b_M_fresh_J28
      refine Tr_bnd (M_blame V 1 (V 142 4)) ?_
      rintro _ U ⟨u1, -, u3, -⟩
      have u3' := u3 (by omega)
      unfold b_M_fresh_J37
      refine Tr_f (by omega) ?_
      unfold b_M_fresh_J65
      exact Tr_f (by omega) (Tr_ret ⟨u1, Or.inr ⟨1, _, hR, by decide, u3'.1, by rw [u3'.2]; exact hP4⟩⟩)
    rcases K_name hr h8 with ⟨c, q1, q2, q3, q4⟩ | ⟨c, q1⟩
    · rw [if_pos c] at hR
      refine Tr_t q1 (Tr_bq q4 (Tr_t rfl ?_))
      unfold b_M_fresh_J37
      refine Tr_t h8 ?_
      rw [q2]
      refine Tr_bq (M_named hb h30 hnm q3) ?_
      by_cases d : pixF ((tkK T n).2.2.1 k) ns 0 = -1
      · rw [if_pos d] at hR
        have hkN : k < N := K_lt hL hk.2 (by omega) (by omega)
        refine Tr_t d ?_
        unfold b_M_fresh_J65
        refine Tr_t h8 (Tr_bnd (M_next hX hL ⟨hk.1, hkN⟩ hr h8) ?_)
        rintro _ U ⟨u1, u2⟩
        exact Tr_ret ⟨u1, Or.inl ⟨⟨hP, q2, q3⟩, ⟨by omega, by omega⟩, u2, hR⟩⟩
      · rw [if_neg d] at hR
        refine Tr_f d (Tr_bnd (M_blame V 2 (V 142 4)) ?_)
        rintro _ U ⟨u1, -, u3, -⟩
        have u3' := u3 (by omega)
        unfold b_M_fresh_J65
        exact Tr_f (by omega) (Tr_ret ⟨u1, Or.inr ⟨2, _, hR, by decide, u3'.1, by rw [u3'.2]; exact hP4⟩⟩)
    · exact Tr_if (fun z => Tr_bq (q1 z) (Tr_f (by decide) (bad c))) (fun _ => bad c)
  · exact Tr_f (by omega) (Tr_ret ⟨frA_rfl V, Or.inr hF⟩)
theorem D_asked {T : Int → Int} {n N b k : Int} {ns : List (List Int)} {P : Prop} {R : PR} {g : Int → Int → PR} {V : ASt} (hb : b = 0 ∨ b = 1) (hL : lstK T n N) (hX : LX T n V) (h30 : V 142 30 = b) (hnm : nmR b ns V) (h : St T n N P k R (ask (tkK T n) ns k g) V) :
    Tr (f_M_asked S0 V 142) (fun y U => frA V U ∧ ((U 142 8 = 0 ∧ P ∧ (0 ≤ k + 1 ∧ k + 1 ≤ N) ∧ rKt T n (k + 1) U ∧ R = g (k + 1) y) ∨ ((∃ z, St T n N P (k + 1) R (g (k + 1) z) U) ∧ U 142 8 ≠ 0))) := by
  unfold f_M_asked
  rw [gd_t O_142]
  rcases St_n h ask_b with ⟨h8, hP, hk, hr, hR⟩ | ⟨h8, hF⟩
  · have hP4 := (rKt_K hr h8).2.1
    refine Tr_t (by omega) ?_
    unfold ask at hR
    have bad : (tkK T n).1 k ≠ 2 → Tr (b_M_asked_J28 S0 V 142) (fun y U => frA V U ∧ ((U 142 8 = 0 ∧ P ∧ (0 ≤ k + 1 ∧ k + 1 ≤ N) ∧ rKt T n (k + 1) U ∧ R = g (k + 1) y) ∨ ((∃ z, St T n N P (k + 1) R (g (k + 1) z) U) ∧ U 142 8 ≠ 0))) := by
      intro c
      rw [if_neg c] at hR
      unfold b_M_asked_J28
      refine Tr_bnd (M_blame V 1 (V 142 4)) ?_
      rintro _ U ⟨u1, -, u3, -⟩
      have u3' := u3 (by omega)
      unfold b_M_asked_J37
      refine Tr_f (by omega) ?_
      unfold b_M_asked_J56
      refine Tr_f (by omega) ?_
      unfold b_M_asked_J78
      refine Tr_f (by omega) ?_
      unfold b_M_asked_J89
      exact Tr_f (by omega) (Tr_ret ⟨u1, Or.inr ⟨⟨0, Or.inr ⟨1, _, hR, by decide, u3'.1, by rw [u3'.2]; exact hP4⟩⟩, by omega⟩⟩)
    rcases K_name hr h8 with ⟨c, q1, q2, q3, q4⟩ | ⟨c, q1⟩
    · rw [if_pos c] at hR
      refine Tr_t q1 (Tr_bq q4 (Tr_t rfl ?_))
      unfold b_M_asked_J37
      refine Tr_t (by omega) ?_
      rw [q2]
      refine Tr_bq (M_named hb h30 hnm q3) ?_
      unfold b_M_asked_J56
      refine Tr_t h8 ?_
      by_cases d : pixF ((tkK T n).2.2.1 k) ns 0 = -1
      · rw [if_pos d] at hR
        refine Tr_t d (Tr_bnd (M_blame V 3 (V 142 4)) ?_)
        rintro _ U ⟨u1, -, u3, -⟩
        have u3' := u3 (by omega)
        unfold b_M_asked_J78
        refine Tr_f (by omega) ?_
        unfold b_M_asked_J89
        exact Tr_f (by omega) (Tr_ret ⟨u1, Or.inr ⟨⟨0, Or.inr ⟨3, _, hR, by decide, u3'.1, by rw [u3'.2]; exact hP4⟩⟩, by omega⟩⟩)
      · rw [if_neg d] at hR
        have hkN : k < N := K_lt hL hk.2 (by omega) (by omega)
        refine Tr_f d ?_
        unfold b_M_asked_J78
        refine Tr_t h8 (Tr_bnd (M_next hX hL ⟨hk.1, hkN⟩ hr h8) ?_)
        rintro _ U ⟨u1, u2⟩
        unfold b_M_asked_J89
        by_cases u8 : U 142 8 = 0
        · exact Tr_t (by omega) (Tr_ret ⟨u1, Or.inl ⟨u8, hP, ⟨by omega, by omega⟩, u2, hR⟩⟩)
        · have := rKt_h u2 u8
          exact Tr_f (by omega) (Tr_ret ⟨u1, Or.inr ⟨⟨_, Or.inl ⟨hP, ⟨by omega, by omega⟩, u2, hR⟩⟩, u8⟩⟩)
    · exact Tr_if (fun z => Tr_bq (q1 z) (Tr_f (by decide) (bad c))) (fun _ => bad c)
  · exact Tr_f (by omega) (Tr_ret ⟨frA_rfl V, Or.inr ⟨⟨0, Or.inr hF⟩, by omega⟩⟩)
theorem M_counts {T : Int → Int} {n N k x : Int} {V : ASt} (hL : lstK T n N) (hX : LX T n V) (hk : 0 ≤ k ∧ k < N) (hr : rKt T n k V) (h8 : V 142 8 = 0) : Tr (f_M_counts S0 V 142 x) (fun y U => frA V U ∧ ((x ≠ 0 ∧ y = 0 ∧ U 142 8 = 5 ∧ U 142 9 = kP T n k) ∨ (x = 0 ∧ rKt T n (k + 1) U ∧ ((y = 1 ∧ U 142 8 = 0) ∨ (y = 0 ∧ U 142 8 ≠ 0))))) := by
  unfold f_M_counts
  rw [gd_t O_142]
  refine Tr_t h8 (Tr_if (fun z => ?_) (fun z => ?_))
  · unfold b_M_counts_J20
    refine Tr_t h8 (Tr_bnd (M_next hX hL hk hr h8) ?_)
    rintro _ U ⟨u1, u2⟩
    unfold b_M_counts_J31
    exact Tr_if (fun q => Tr_ret ⟨u1, Or.inr ⟨z, u2, Or.inl ⟨rfl, q⟩⟩⟩) (fun q => Tr_ret ⟨u1, Or.inr ⟨z, u2, Or.inr ⟨rfl, q⟩⟩⟩)
  · refine Tr_bnd (M_blame V 5 (V 142 4)) ?_
    rintro _ U ⟨u1, -, u3, -⟩
    have u3' := u3 (by omega)
    unfold b_M_counts_J20
    refine Tr_f (by omega) ?_
    unfold b_M_counts_J31
    exact Tr_f (by omega) (Tr_ret ⟨u1, Or.inl ⟨z, rfl, u3'.1, by rw [u3'.2]; exact (rKt_K hr h8).2.1⟩⟩)
theorem M_kindHere {T : Int → Int} {n k : Int} {V : ASt} (hr : rKt T n k V) (h8 : V 142 8 = 0) : f_M_kindHere S0 V 142 = some (kndT ((tkK T n).1 k), V) := by
  have hW := K_word hr h8
  unfold f_M_kindHere kndT
  rw [gd_t O_142, bnd_s (hW 9 7168377 265 (by decide) (by decide) (by decide))]
  by_cases c1 : (tkK T n).1 k = 265
  · rw [if_pos c1, if_neg (by decide), if_neg (by omega), if_neg (by omega), if_pos c1]
  rw [if_neg c1, if_pos rfl, bnd_s (hW 10 7237492 266 (by decide) (by decide) (by decide))]
  by_cases c2 : (tkK T n).1 k = 266
  · rw [if_pos c2, if_neg (by decide), if_neg (by omega), if_neg (by omega), if_neg c1, if_pos c2]
  rw [if_neg c2, if_pos rfl, bnd_s (hW 8 2003398259 264 (by decide) (by decide) (by decide))]
  by_cases c3 : (tkK T n).1 k = 264
  · rw [if_pos c3, if_neg (by decide), if_neg (by omega), if_pos c3]
  rw [if_neg c3, if_pos rfl, bnd_s (hW 6 465726301555 262 (by decide) (by decide) (by decide))]
  by_cases c4 : (tkK T n).1 k = 262
  · rw [if_pos c4, if_neg (by decide), if_pos c4]
  · rw [if_neg c4, if_pos rfl, if_neg c4, if_neg c3, if_neg c1, if_neg c2]
