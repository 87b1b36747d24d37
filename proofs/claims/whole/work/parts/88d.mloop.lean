/-! the reference's cells hold the machine: what closes, and the whole -/
theorem M_G511 {T : Int → Int} {n N b k kd ph bg pr bs : Int} {ns : List (List Int)} {G : FR} {r : List FR} {os : List Int} {cs : CDs} {V : ASt} (hb : b = 0 ∨ b = 1) (hL : lstK T n N) (hk : 0 ≤ k ∧ k < N) (hr : rKt T n k V) (h : M1 T n b ns ((kd, ph, bg, pr, bs) :: G :: r) os cs V) (h8 : V 142 8 = 0) (h40 : V 142 40 = 1) (hg : gdS k ((kd, ph, bg, pr, bs) :: G :: r) os cs) :
    Tr (b_M_goesOn_J511 S0 V 142 ((G :: r).length : Int) kd) (PG T n b ns V (some (Sum.inl (k + 1, 1, clS kd (G :: r), (jnO bs 1 os cs).1, (if kd = 4 then (jnO bs 1 os cs).2 ++ [(pr, 0)] else (jnO bs 1 os cs).2))))) := by
  have hn := h.1.2.1
  have hNn := hL.2.1
  obtain ⟨hg1, hg2, hg3⟩ := hg
  have hlen : ((((kd, ph, bg, pr, bs) :: G :: r : List FR).length : Nat) : Int) = (r.length : Int) + 1 + 1 := by simp only [List.length_cons]; omega
  have hlr : (((G :: r).length : Nat) : Int) = (r.length : Int) + 1 := by simp only [List.length_cons]; omega
  have hj := jnO_len (bs := bs) (l := 1) os cs
  unfold b_M_goesOn_J511
  refine Tr_t (by omega) (Tr_bnd (M_join (bs := bs) (l := 1) hb h (by omega) rfl (by omega) (by omega)) ?_)
  rintro _ U ⟨u1, u2, u3⟩
  have u36 : U 142 36 = (r.length : Int) + 1 + 1 := by rw [u1.2.1, hlen]
  have u37 : U 142 37 = (r.length : Int) + 1 := by rw [u1.2.2.1, hlen]; omega
  obtain ⟨⟨k1, k2, k3, k4, k5, k6, k7⟩, kr⟩ := u1.2.2.2.2.2.1
  rw [u36, w32_id (x := (r.length : Int) + 1 + 1 - 1) (by omega) (by omega), show (r.length : Int) + 1 + 1 - 1 = (r.length : Int) + 1 by omega]
  refine Tr_set (fun V1 e1 n1 => ?_)
  rw [show V1 142 37 = (r.length : Int) + 1 by rw [e1, upI_n _ _ (by decide)]; exact u37, w32_id (x := (r.length : Int) + 1 - 1) (by omega) (by omega), show (r.length : Int) + 1 - 1 = (r.length : Int) by omega]
  refine Tr_set (fun W e2 n2 => ?_)
  have s142 : ∀ j, j ≠ 36 → j ≠ 37 → W 142 j = U 142 j := fun j j1 j2 => by rw [e2, upI_n _ _ j2, e1, upI_n _ _ j1]
  have so : ∀ a, a ≠ 142 → W a = U a := fun a ha => by rw [n2 a ha, n1 a ha]
  have w36 : W 142 36 = (r.length : Int) + 1 := by rw [e2, upI_n _ _ (by decide), e1, upI_s]
  have fW : fmV b U W := fmV_n (fun a a1 _ => so a a1) (fun j _ _ j3 j4 _ _ => s142 j j3 j4)
  have tW : fmT U W := fun j hj => s142 j (by omega) (by omega)
  have mW : M1 T n b ns (G :: r) (jnO bs 1 os cs).1 (jnO bs 1 os cs).2 W := by
    obtain ⟨g1, g2, g3, g4, g5, g6, g7, g8, g9⟩ := u1
    refine ⟨LX_V g1 fW, by rw [w36, hlr], by rw [e2, upI_s, hlr]; omega, by rw [s142 39 (by decide) (by decide)]; exact g4, by rw [so 165 (by decide)]; exact g5, fmR_k _ (fun a i a1 a2 _ _ => by rw [so a (by omega)]) g6.2, ?_, by rw [s142 30 (by decide) (by decide)]; exact g8, nmR_k g9 fW⟩
    unfold cdR at *
    rw [s142 29 (by decide) (by decide), so 158 (by decide), so 159 (by decide)]
    exact g7
  have rW := rKt_k (rKt_k hr u3) tW
  have w8 : W 142 8 = 0 := by rw [tW 8 (by omega), u3 8 (by omega)]; exact h8
  have w40 : W 142 40 = 1 := by rw [tW 40 (by omega), u3 40 (by omega)]; exact h40
  have f0 : fmV b V W := fmV_tr u2 fW
  have f578 : ∀ (X : ASt) (fs : List FR) (c : CDs), fmV b V X → rKt T n k X → M1 T n b ns fs (jnO bs 1 os cs).1 c X → X 142 8 = 0 → X 142 40 = 1 → Tr (b_M_goesOn_J578 S0 X 142) (PG T n b ns V (some (Sum.inl (k + 1, 1, fs, (jnO bs 1 os cs).1, c)))) := by
    intro X fs c x1 x2 x3 x4 x5
    unfold b_M_goesOn_J578
    refine Tr_bnd (M_next x3.1 hL hk x2 x4) ?_
    rintro _ Y ⟨y1, y2⟩
    exact Tr_ret ⟨fmV_tr x1 (fmV_A y1), Or.inl ⟨_, rfl, ⟨y2, fun _ => M1_A x3 y1⟩, rfl, by rw [y1.2 40 (by omega)]; exact x5⟩⟩
  have f561 : ∀ (X : ASt) (c : CDs), fmV b V X → rKt T n k X → M1 T n b ns (G :: r) (jnO bs 1 os cs).1 c X → X 142 8 = 0 → X 142 40 = 1 → Tr (b_M_goesOn_J561 S0 X 142 kd) (PG T n b ns V (some (Sum.inl (k + 1, 1, clS kd (G :: r), (jnO bs 1 os cs).1, c)))) := by
    intro X c x1 x2 x3 x4 x5
    unfold b_M_goesOn_J561
    obtain ⟨ga, gb, gc, gd', ge⟩ := G
    by_cases z : kd = 5
    · have ec : clS kd ((ga, gb, gc, gd', ge) :: r) = (ga, 2, gc, gd', ge) :: r := by unfold clS; rw [if_pos z]
      rw [ec]
      refine Tr_t z ?_
      rw [x3.2.1, hlr, w32_id (x := (r.length : Int) + 1 - 1) (by omega) (by omega), show (r.length : Int) + 1 - 1 = (r.length : Int) by omega, F_142_32, A_161, gd_in (by omega) (by omega)]
      refine Tr_set (fun Y eY nY => ?_)
      exact f578 Y _ c (fmV_tr x1 (fmV_f (by decide) nY)) (rKt_k x2 (fmT_f (by decide) nY)) (M1_pb x3 eY nY) (by rw [nY 142 (by decide)]; exact x4) (by rw [nY 142 (by decide)]; exact x5)
    · have ec : clS kd ((ga, gb, gc, gd', ge) :: r) = (ga, gb, gc, gd', ge) :: r := by unfold clS; rw [if_neg z]
      rw [ec]
      exact Tr_f z (f578 X _ c x1 x2 x3 x4 x5)
  by_cases z : kd = 4
  · rw [show (if kd = 4 then (jnO bs 1 os cs).2 ++ [(pr, 0)] else (jnO bs 1 os cs).2) = (jnO bs 1 os cs).2 ++ [(pr, 0)] from if_pos z]
    refine Tr_t z ?_
    have e163 : W 163 ((G :: r).length : Int) = pr := by rw [so 163 (by decide)]; exact k5 (Or.inr z)
    rw [F_142_34, A_163, gd_in (by omega) (by omega), e163]
    refine Tr_bnd (M_add (x := pr) (v := 0) hb mW (by omega)) ?_
    rintro _ X ⟨x1, x2, x3, -⟩
    exact f561 X _ (fmV_tr f0 x2) (rKt_k rW x3) x1 (by rw [x3 8 (by omega)]; exact w8) (by rw [x3 40 (by omega)]; exact w40)
  · rw [show (if kd = 4 then (jnO bs 1 os cs).2 ++ [(pr, 0)] else (jnO bs 1 os cs).2) = (jnO bs 1 os cs).2 from if_neg z]
    exact Tr_f z (f561 W _ f0 rW mW w8 w40)
theorem M_goesOn {T : Int → Int} {n N b k kd ph bg pr bs : Int} {ns : List (List Int)} {r : List FR} {os : List Int} {cs : CDs} {V : ASt} (hb : b = 0 ∨ b = 1) (hL : lstK T n N) (hk : 0 ≤ k ∧ k ≤ N) (hr : rKt T n k V) (h : M1 T n b ns ((kd, ph, bg, pr, bs) :: r) os cs V) (h8 : V 142 8 = 0) (h40 : V 142 40 = 1) (hg : gdS k ((kd, ph, bg, pr, bs) :: r) os cs) (hne : stG (tkK T n) k kd ph bg pr bs r os cs ≠ none) :
    Tr (f_M_goesOn S0 V 142) (PG T n b ns V (stG (tkK T n) k kd ph bg pr bs r os cs)) := by
  have hn := h.1.2.1
  have hNn := hL.2.1
  obtain ⟨hg1, hg2, hg3⟩ := hg
  have hlen : ((((kd, ph, bg, pr, bs) :: r : List FR).length : Nat) : Int) = (r.length : Int) + 1 := by simp only [List.length_cons]; omega
  have h36 : V 142 36 = (r.length : Int) + 1 := by rw [h.2.1, hlen]
  obtain ⟨⟨f1, f2, f3, f4, f5, f6, f7⟩, fr⟩ := h.2.2.2.2.2.1
  have f1' : V 160 (r.length : Int) = kd := f1
  have f2' : V 161 (r.length : Int) = ph := f2
  have hS := K_sign hr h8
  have hP4 := (rKt_K hr h8).2.1
  have lt : (tkK T n).1 k ≠ 0 → (tkK T n).1 k ≠ 1 → k < N := K_lt hL hk.2
  have hj := jnO_len (bs := bs) (l := 1) os cs
  -- fault is found
  have flt : ∀ (U : ASt) (P : Prop), frA V U → U 142 8 = 1 → U 142 9 = V 142 4 → stG (tkK T n) k kd ph bg pr bs r os cs = some (Sum.inr (1, (tkK T n).2.1 k, cs)) → PG T n b ns V (stG (tkK T n) k kd ph bg pr bs r os cs) 0 U := by
    intro U _ u1 u2 u3 e
    exact ⟨fmV_A u1, Or.inr (Or.inl ⟨1, _, _, e, by decide, u2, by rw [u3]; exact hP4⟩)⟩
  -- a fault goes through the end
  have end1 : ∀ U : ASt, frA V U → U 142 8 = 1 → U 142 9 = V 142 4 → (kd = 1 ∨ kd = 5) → stG (tkK T n) k kd ph bg pr bs r os cs = some (Sum.inr (1, (tkK T n).2.1 k, cs)) → Tr (b_M_goesOn_J409 S0 U 142 (r.length : Int) kd) (PG T n b ns V (stG (tkK T n) k kd ph bg pr bs r os cs)) := by
    intro U u1 u2 u3 hkd e
    unfold b_M_goesOn_J409
    refine Tr_if (fun z => ?_) (fun z => ?_)
    · refine Tr_f (by omega) (Tr_t (by omega) ?_)
      unfold b_M_goesOn_J496
      rw [gd_t O_142]
      obtain ⟨y, hy⟩ := M_isSign_a U 93
      refine Tr_bq hy (Tr_if (fun _ => ?_) (fun _ => ?_))
      · refine Tr_bnd (M_blame U 1 (U 142 4)) ?_
        rintro _ W ⟨w1, -, -, w4⟩
        have w4' := w4 (by omega)
        unfold b_M_goesOn_J511
        exact Tr_f (by omega) (Tr_ret (flt W True (frA_tr u1 w1) (by rw [w4'.1]; exact u2) (by rw [w4'.2]; exact u3) e))
      · unfold b_M_goesOn_J511
        exact Tr_f (by omega) (Tr_ret (flt U True u1 u2 u3 e))
    · exact Tr_f (by omega) (Tr_ret (flt U True u1 u2 u3 e))
  -- no operator, no word between tests
  have j409 : (((kd = 1 ∨ kd = 5) ∧ ph ≠ 0) ∨ ¬ (kd = 1 ∨ kd = 5)) → ¬ (ph < 2 ∧ ((tkK T n).1 k = 43 ∨ (tkK T n).1 k = 45 ∨ (tkK T n).1 k = 42 ∨ (tkK T n).1 k = 47 ∨ (tkK T n).1 k = 37)) → ¬ ((kd = 1 ∨ kd = 5) ∧ ((tkK T n).1 k = 272 ∨ (tkK T n).1 k = 271)) → Tr (b_M_goesOn_J409 S0 V 142 (r.length : Int) kd) (PG T n b ns V (stG (tkK T n) k kd ph bg pr bs r os cs)) := by
    intro q1 q2 q3
    have e : stG (tkK T n) k kd ph bg pr bs r os cs = if kd < 2 then some (Sum.inr (0, k, (jnO bs 1 os cs).2))
        else if kd = 3 then (if (tkK T n).1 k = 44 then some (Sum.inl (k + 1, 0, (4, ph, bg, pr, bs) :: r, (jnO bs 1 os cs).1, (jnO bs 1 os cs).2)) else some (Sum.inr (1, (tkK T n).2.1 k, cs)))
        else if (r.length : Int) = 0 then none
        else if (tkK T n).1 k = (if kd = 5 then 93 else 41) then some (Sum.inl (k + 1, 1, clS kd r, (jnO bs 1 os cs).1, (if kd = 4 then (jnO bs 1 os cs).2 ++ [(pr, 0)] else (jnO bs 1 os cs).2)))
        else some (Sum.inr (1, (tkK T n).2.1 k, cs)) := by
      unfold stG
      rw [if_neg q2, if_neg (fun z => by omega), if_neg q3, if_neg (fun z => by omega)]
    unfold b_M_goesOn_J409
    refine Tr_if (fun z => ?_) (fun z => ?_)
    · rw [if_neg (show ¬ kd < 2 by omega)] at e
      refine Tr_if (fun z3 => ?_) (fun z3 => ?_)
      · rw [if_pos z3] at e
        refine Tr_bq (hS 44 (by decide)) ?_
        by_cases c : (tkK T n).1 k = 44
        · rw [if_pos c] at e ⊢
          refine Tr_f (by decide) ?_
          have hkN := lt (by omega) (by omega)
          rw [e]
          unfold b_M_goesOn_J451
          refine Tr_t (by omega) (Tr_bnd (M_join (bs := bs) (l := 1) hb h (by omega) rfl (by omega) (by omega)) ?_)
          rintro _ U ⟨u1, u2, u3⟩
          rw [F_142_31, A_160, gd_in (by omega) (by omega)]
          refine Tr_set (fun X eX nX => ?_)
          refine Tr_mono (M_nx hL ⟨hk.1, hkN⟩ (rKt_k (rKt_k hr u3) (fmT_f (by decide) nX)) (M1_kd u1 z3 eX nX) (by rw [nX 142 (by decide), u3 8 (by omega)]; exact h8)) ?_
          rintro x Y ⟨y1, y2, y3, y4⟩
          exact ⟨fmV_tr (fmV_tr u2 (fmV_f (by decide) nX)) y1, Or.inl ⟨_, rfl, y3, y2, y4⟩⟩
        · rw [if_neg c] at e ⊢
          refine Tr_t rfl (Tr_bnd (M_blame V 1 (V 142 4)) ?_)
          rintro _ U ⟨u1, -, u3, -⟩
          have u3' := u3 (by omega)
          unfold b_M_goesOn_J451
          exact Tr_f (by omega) (Tr_ret (flt U True u1 u3'.1 u3'.2 e))
      · rw [if_neg z3] at e
        by_cases r0 : (r.length : Int) = 0
        · rw [if_pos r0] at e; exact absurd e hne
        rw [if_neg r0] at e
        have j496 : ∀ sg : Int, sgn sg → (if kd = 5 then (93 : Int) else 41) = sg → Tr (b_M_goesOn_J496 S0 V 142 (r.length : Int) kd 142 sg) (PG T n b ns V (stG (tkK T n) k kd ph bg pr bs r os cs)) := by
          intro sg hsg es
          rw [es] at e
          unfold b_M_goesOn_J496
          rw [gd_t O_142]
          refine Tr_bq (hS sg hsg) ?_
          by_cases c : (tkK T n).1 k = sg
          · rw [if_pos c] at e ⊢
            refine Tr_f (by decide) ?_
            have hkN := lt (by unfold sgn at hsg; omega) (by unfold sgn at hsg; omega)
            rw [e]
            cases r with
            | nil => exact absurd rfl r0
            | cons G r => exact M_G511 hb hL ⟨hk.1, hkN⟩ hr h h8 h40 ⟨hg1, hg2, hg3⟩
          · rw [if_neg c] at e ⊢
            refine Tr_t rfl (Tr_bnd (M_blame V 1 (V 142 4)) ?_)
            rintro _ U ⟨u1, -, u3, -⟩
            have u3' := u3 (by omega)
            unfold b_M_goesOn_J511
            exact Tr_f (by omega) (Tr_ret (flt U True u1 u3'.1 u3'.2 e))
        refine Tr_if (fun z5 => j496 93 (by decide) (if_pos z5)) (fun z5 => j496 41 (by decide) (if_neg z5))
    · rw [if_pos (show kd < 2 by omega)] at e
      refine Tr_t h8 (Tr_bnd (M_join (bs := bs) (l := 1) hb h (by omega) rfl (by omega) (by omega)) ?_)
      rintro _ U ⟨u1, u2, u3⟩
      rw [e]
      exact Tr_ret ⟨u2, Or.inr (Or.inr ⟨_, _, rfl, rfl, by rw [u3 8 (by omega)]; exact h8, rKt_k hr u3, u1.2.2.2.2.2.2.1⟩)⟩
  -- no operator
  have j387 : ∀ x3 : Int, (x3 = 0 → ¬ (kd = 1 ∨ kd = 5)) → (x3 ≠ 0 → (kd = 1 ∨ kd = 5)) → ¬ (ph < 2 ∧ ((tkK T n).1 k = 43 ∨ (tkK T n).1 k = 45 ∨ (tkK T n).1 k = 42 ∨ (tkK T n).1 k = 47 ∨ (tkK T n).1 k = 37)) → ¬ ((kd = 1 ∨ kd = 5) ∧ ph = 0 ∧ ((tkK T n).1 k = 60 ∨ (tkK T n).1 k = 62 ∨ (tkK T n).1 k = 61)) → ¬ ((kd = 1 ∨ kd = 5) ∧ ((tkK T n).1 k = 272 ∨ (tkK T n).1 k = 271)) → Tr (b_M_goesOn_J387 S0 V 142 (r.length : Int) kd x3) (PG T n b ns V (stG (tkK T n) k kd ph bg pr bs r os cs)) := by
    intro x3 t1 t2 q2 q3 q4
    unfold b_M_goesOn_J387
    refine Tr_if (fun z => j409 (Or.inr (t1 z)) q2 q4) (fun z => ?_)
    rw [F_142_32, A_161, gd_in (by omega) (by omega), f2']
    refine Tr_if (fun z0 => ?_) (fun z0 => j409 (Or.inl ⟨t2 z, z0⟩) q2 q4)
    refine Tr_bnd (M_blame V 1 (V 142 4)) ?_
    rintro _ U ⟨u1, -, u3, -⟩
    have u3' := u3 (by omega)
    refine end1 U u1 u3'.1 u3'.2 (t2 z) ?_
    unfold stG
    rw [if_neg q2, if_neg q3, if_neg q4, if_pos ⟨t2 z, z0⟩]
  have j272 : ∀ x3 : Int, (x3 = 0 → ¬ (kd = 1 ∨ kd = 5)) → (x3 ≠ 0 → (kd = 1 ∨ kd = 5)) → ¬ (ph < 2 ∧ ((tkK T n).1 k = 43 ∨ (tkK T n).1 k = 45 ∨ (tkK T n).1 k = 42 ∨ (tkK T n).1 k = 47 ∨ (tkK T n).1 k = 37)) → ¬ ((kd = 1 ∨ kd = 5) ∧ ph = 0 ∧ ((tkK T n).1 k = 60 ∨ (tkK T n).1 k = 62 ∨ (tkK T n).1 k = 61)) → Tr (b_M_goesOn_J272 S0 V 142 (r.length : Int) kd x3) (PG T n b ns V (stG (tkK T n) k kd ph bg pr bs r os cs)) := by
    intro x3 t1 t2 q2 q3
    unfold b_M_goesOn_J272
    refine Tr_if (fun z => j387 x3 t1 t2 q2 q3 (fun y => t1 z y.1)) (fun z => ?_)
    have go : ((tkK T n).1 k = 272 ∨ (tkK T n).1 k = 271) → Tr (b_M_goesOn_J296 S0 V 142 (r.length : Int)) (PG T n b ns V (stG (tkK T n) k kd ph bg pr bs r os cs)) := by
      intro hty
      have e : stG (tkK T n) k kd ph bg pr bs r os cs = if ph = 0 then some (Sum.inr (1, (tkK T n).2.1 k, cs)) else some (Sum.inl (k + 1, 0, (kd, 0, 1, pr, bs) :: r, (if (tkK T n).1 k = 272 then 20 else 21) :: (jnO bs (if (tkK T n).1 k = 272 then 2 else 1) os cs).1, (jnO bs (if (tkK T n).1 k = 272 then 2 else 1) os cs).2)) := by
        unfold stG
        rw [if_neg q2, if_neg q3, if_pos ⟨t2 z, hty⟩]
      rw [e]
      exact M_G296 hb hL ⟨hk.1, lt (by omega) (by omega)⟩ hr h h8 ⟨hg1, hg2, hg3⟩ hty
    refine Tr_bq (K_word hr h8 16 6385252 272 (by decide) (by decide) (by decide)) ?_
    by_cases c : (tkK T n).1 k = 272
    · rw [if_pos c]
      exact Tr_f (by decide) (go (Or.inl c))
    rw [if_neg c]
    refine Tr_t rfl (Tr_bq (K_word hr h8 15 28530 271 (by decide) (by decide) (by decide)) ?_)
    by_cases c2 : (tkK T n).1 k = 271
    · rw [if_pos c2]
      exact Tr_f (by decide) (go (Or.inr c2))
    rw [if_neg c2]
    exact Tr_t rfl (j387 x3 t1 t2 q2 q3 (fun y => by omega))
  have j175 : ∀ x3 : Int, (x3 = 0 → ¬ (kd = 1 ∨ kd = 5)) → (x3 ≠ 0 → (kd = 1 ∨ kd = 5)) → ¬ (ph < 2 ∧ ((tkK T n).1 k = 43 ∨ (tkK T n).1 k = 45 ∨ (tkK T n).1 k = 42 ∨ (tkK T n).1 k = 47 ∨ (tkK T n).1 k = 37)) → Tr (b_M_goesOn_J175 S0 V 142 (r.length : Int) kd x3) (PG T n b ns V (stG (tkK T n) k kd ph bg pr bs r os cs)) := by
    intro x3 t1 t2 q2
    unfold b_M_goesOn_J175
    refine Tr_if (fun z => j272 x3 t1 t2 q2 (fun y => t1 z y.1)) (fun z => ?_)
    rw [F_142_32, A_161, gd_in (by omega) (by omega), f2']
    refine Tr_if (fun z0 => ?_) (fun z0 => j272 x3 t1 t2 q2 (fun y => z0 y.2.1))
    have go : ((tkK T n).1 k = 60 ∨ (tkK T n).1 k = 62 ∨ (tkK T n).1 k = 61) → Tr (b_M_goesOn_J215 S0 V 142 (r.length : Int)) (PG T n b ns V (stG (tkK T n) k kd ph bg pr bs r os cs)) := by
      intro hty
      have e : stG (tkK T n) k kd ph bg pr bs r os cs = some (Sum.inl (k + 1, 0, (kd, 1, bg, pr, bs) :: r, cmO ((tkK T n).1 k) :: (jnO bs 5 os cs).1, (jnO bs 5 os cs).2)) := by
        unfold stG
        rw [if_neg q2, if_pos ⟨t2 z, z0, hty⟩]
      rw [e]
      exact M_G215 hb hL ⟨hk.1, lt (by omega) (by omega)⟩ hr h h8 ⟨hg1, hg2, hg3⟩ hty
    refine Tr_bq (hS 60 (by decide)) ?_
    by_cases c : (tkK T n).1 k = 60
    · rw [if_pos c]
      exact Tr_f (by decide) (go (Or.inl c))
    rw [if_neg c]
    refine Tr_t rfl (Tr_bq (hS 62 (by decide)) ?_)
    by_cases c2 : (tkK T n).1 k = 62
    · rw [if_pos c2]
      exact Tr_f (by decide) (go (Or.inr (Or.inl c2)))
    rw [if_neg c2]
    refine Tr_t rfl (Tr_bq (hS 61 (by decide)) ?_)
    by_cases c3 : (tkK T n).1 k = 61
    · rw [if_pos c3]
      exact Tr_f (by decide) (go (Or.inr (Or.inr c3)))
    rw [if_neg c3]
    exact Tr_t rfl (j272 x3 t1 t2 q2 (fun y => by omega))
  have main : ∀ x3 : Int, (x3 = 0 → ¬ (kd = 1 ∨ kd = 5)) → (x3 ≠ 0 → (kd = 1 ∨ kd = 5)) → Tr (gd (inS 20 (r.length : Int)) (if 2 ≤ V 161 (r.length : Int) then (b_M_goesOn_J175 S0 V 142 (r.length : Int) kd x3) else (bnd (f_M_isSign S0 V 142 43) (fun r137 V138 => if r137 = 0 then (bnd (f_M_isSign S0 V138 142 45) (fun r140 V141 => if r140 = 0 then (bnd (f_M_isSign S0 V141 142 42) (fun r143 V144 => if r143 = 0 then (bnd (f_M_isSign S0 V144 142 47) (fun r146 V147 => if r146 = 0 then (bnd (f_M_isSign S0 V147 142 37) (fun r149 V150 => if r149 = 0 then (b_M_goesOn_J175 S0 V150 142 (r.length : Int) kd x3) else (b_M_goesOn_J74 S0 V150 142))) else (b_M_goesOn_J74 S0 V147 142))) else (b_M_goesOn_J74 S0 V144 142))) else (b_M_goesOn_J74 S0 V141 142))) else (b_M_goesOn_J74 S0 V138 142))))) (PG T n b ns V (stG (tkK T n) k kd ph bg pr bs r os cs)) := by
    intro x3 t1 t2
    rw [gd_in (by omega) (by omega), f2']
    refine Tr_if (fun z => j175 x3 t1 t2 (fun y => by omega)) (fun z => ?_)
    have go : ((tkK T n).1 k = 43 ∨ (tkK T n).1 k = 45 ∨ (tkK T n).1 k = 42 ∨ (tkK T n).1 k = 47 ∨ (tkK T n).1 k = 37) → Tr (b_M_goesOn_J74 S0 V 142) (PG T n b ns V (stG (tkK T n) k kd ph bg pr bs r os cs)) := fun hty => M_G74 hb hL ⟨hk.1, lt (by omega) (by omega)⟩ hr h h8 ⟨hg1, hg2, hg3⟩ (by omega) hty
    refine Tr_bq (hS 43 (by decide)) ?_
    by_cases c : (tkK T n).1 k = 43
    · rw [if_pos c]
      exact Tr_f (by decide) (go (by omega))
    rw [if_neg c]
    refine Tr_t rfl (Tr_bq (hS 45 (by decide)) ?_)
    by_cases c2 : (tkK T n).1 k = 45
    · rw [if_pos c2]
      exact Tr_f (by decide) (go (by omega))
    rw [if_neg c2]
    refine Tr_t rfl (Tr_bq (hS 42 (by decide)) ?_)
    by_cases c3 : (tkK T n).1 k = 42
    · rw [if_pos c3]
      exact Tr_f (by decide) (go (by omega))
    rw [if_neg c3]
    refine Tr_t rfl (Tr_bq (hS 47 (by decide)) ?_)
    by_cases c4 : (tkK T n).1 k = 47
    · rw [if_pos c4]
      exact Tr_f (by decide) (go (by omega))
    rw [if_neg c4]
    refine Tr_t rfl (Tr_bq (hS 37 (by decide)) ?_)
    by_cases c5 : (tkK T n).1 k = 37
    · rw [if_pos c5]
      exact Tr_f (by decide) (go (by omega))
    rw [if_neg c5]
    exact Tr_t rfl (j175 x3 t1 t2 (fun y => by omega))
  unfold f_M_goesOn
  rw [gd_t O_142, h36, w32_id (x := (r.length : Int) + 1 - 1) (by omega) (by omega), show (r.length : Int) + 1 - 1 = (r.length : Int) by omega, F_142_31, F_142_32, A_160, A_161, gd_in (by omega) (by omega), f1']
  unfold f_M_isTest
  by_cases k1 : kd = 1
  · exact Tr_bq (if_pos k1) (main 1 (fun y => absurd y (by decide)) (fun _ => Or.inl k1))
  · by_cases k5 : kd = 5
    · exact Tr_bq ((if_neg k1).trans (if_pos k5)) (main 1 (fun y => absurd y (by decide)) (fun _ => Or.inr k5))
    · exact Tr_bq ((if_neg k1).trans (if_neg k5)) (main 0 (fun _ y => by omega) (fun y => absurd rfl y))
