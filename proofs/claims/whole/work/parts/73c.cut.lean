/-! all tokens are cut -/
/-- the eight kinds of what may stand behind e -/
theorem tk_c8 (T : Int → Int) (n e : Int) :
    (n ≤ pA T n e ∧ tkT T n e = 0 ∧ tkP T n e = pA T n e ∧ tkE T n e = pA T n e ∧ tkC T n e = 0) ∨
    (pA T n e < n ∧ (ltr (T (pA T n e)) ∨ dgt (T (pA T n e))) ∧ jnd T (pA T n e) ∧ tkT T n e = 1 ∧ tkP T n e = pA T n e ∧ tkC T n e = 0) ∨
    (pA T n e < n ∧ ltr (T (pA T n e)) ∧ ¬ jnd T (pA T n e) ∧ 6 < wE T n (pA T n e) - pA T n e ∧ tkT T n e = 1 ∧ tkP T n e = pA T n e + 6 ∧ tkC T n e = 0) ∨
    (pA T n e < n ∧ ltr (T (pA T n e)) ∧ ¬ jnd T (pA T n e) ∧ ¬ 6 < wE T n (pA T n e) - pA T n e ∧ tkT T n e = ownT (sbl T (wE T n (pA T n e) - pA T n e).toNat (pA T n e)) ∧ tkP T n e = pA T n e ∧ tkE T n e = wE T n (pA T n e) ∧ tkC T n e = nm32 (sbl T (wE T n (pA T n e) - pA T n e).toNat (pA T n e)) 33554432) ∨
    (pA T n e < n ∧ ¬ ltr (T (pA T n e)) ∧ dgt (T (pA T n e)) ∧ ¬ jnd T (pA T n e) ∧ 4 < dE T n (pA T n e) - pA T n e ∧ tkT T n e = 1 ∧ tkP T n e = pA T n e + 4 ∧ tkC T n e = 0) ∨
    (pA T n e < n ∧ ¬ ltr (T (pA T n e)) ∧ dgt (T (pA T n e)) ∧ ¬ jnd T (pA T n e) ∧ ¬ 4 < dE T n (pA T n e) - pA T n e ∧ tkT T n e = 3 ∧ tkP T n e = pA T n e ∧ tkE T n e = dE T n (pA T n e) ∧ tkC T n e = nd (sbl T (dE T n (pA T n e) - pA T n e).toNat (pA T n e)) 0) ∨
    (pA T n e < n ∧ ¬ ltr (T (pA T n e)) ∧ ¬ dgt (T (pA T n e)) ∧ ((sgn (T (pA T n e)) ∧ tkT T n e = T (pA T n e)) ∨ (¬ sgn (T (pA T n e)) ∧ tkT T n e = 1)) ∧ tkP T n e = pA T n e ∧ tkE T n e = pA T n e + 1 ∧ tkC T n e = 0) := by
  have k1 : ∀ v : Int, v = 0 ∨ v = 1 → (if v = 2 ∨ 256 ≤ v then nm32 (tkN T n e) 33554432 else if v = 3 then tkV T n e else 0) = 0 := by
    intro v hv
    rw [if_neg (by omega), if_neg (by omega)]
  by_cases c : n ≤ pA T n e
  · have h1 : tkT T n e = 0 := by unfold tkT; rw [if_pos c]
    refine Or.inl ⟨c, h1, by unfold tkP; rw [if_pos c], by unfold tkE; rw [if_pos c], ?_⟩
    unfold tkC
    rw [h1]; exact k1 0 (Or.inl rfl)
  have c' : pA T n e < n := Int.not_le.mp c
  by_cases cl : ltr (T (pA T n e))
  · have hor : ltr (T (pA T n e)) ∨ dgt (T (pA T n e)) := Or.inl cl
    by_cases j : jnd T (pA T n e)
    · have h1 : tkT T n e = 1 := by unfold tkT; rw [if_neg c, if_pos hor, if_pos j]
      refine Or.inr (Or.inl ⟨c', hor, j, h1, by unfold tkP; rw [if_neg c, if_pos hor, if_pos j], ?_⟩)
      unfold tkC
      rw [h1]; exact k1 1 (Or.inr rfl)
    by_cases y : 6 < wE T n (pA T n e) - pA T n e
    · have h1 : tkT T n e = 1 := by unfold tkT; rw [if_neg c, if_pos hor, if_neg j, if_pos cl, if_pos y]
      refine Or.inr (Or.inr (Or.inl ⟨c', cl, j, y, h1, by unfold tkP; rw [if_neg c, if_pos hor, if_neg j, if_pos cl, if_pos y], ?_⟩))
      unfold tkC
      rw [h1]; exact k1 1 (Or.inr rfl)
    · have h1 : tkT T n e = ownT (sbl T (wE T n (pA T n e) - pA T n e).toNat (pA T n e)) := by unfold tkT; rw [if_neg c, if_pos hor, if_neg j, if_pos cl, if_neg y]
      refine Or.inr (Or.inr (Or.inr (Or.inl ⟨c', cl, j, y, h1, by unfold tkP; rw [if_neg c, if_pos hor, if_neg j, if_pos cl, if_neg y], by unfold tkE; rw [if_neg c, if_pos cl], ?_⟩)))
      unfold tkC
      have ho : tkT T n e = 2 ∨ 256 ≤ tkT T n e := by
        rw [h1]
        rcases ownT_r (sbl T (wE T n (pA T n e) - pA T n e).toNat (pA T n e)) with q | q
        · exact Or.inl q
        · exact Or.inr q.1
      rw [if_pos ho]; rfl
  · by_cases cd : dgt (T (pA T n e))
    · have hor : ltr (T (pA T n e)) ∨ dgt (T (pA T n e)) := Or.inr cd
      by_cases j : jnd T (pA T n e)
      · have h1 : tkT T n e = 1 := by unfold tkT; rw [if_neg c, if_pos hor, if_pos j]
        refine Or.inr (Or.inl ⟨c', hor, j, h1, by unfold tkP; rw [if_neg c, if_pos hor, if_pos j], ?_⟩)
        unfold tkC
        rw [h1]; exact k1 1 (Or.inr rfl)
      by_cases y : 4 < dE T n (pA T n e) - pA T n e
      · have h1 : tkT T n e = 1 := by unfold tkT; rw [if_neg c, if_pos hor, if_neg j, if_neg cl, if_pos y]
        refine Or.inr (Or.inr (Or.inr (Or.inr (Or.inl ⟨c', cl, cd, j, y, h1, by unfold tkP; rw [if_neg c, if_pos hor, if_neg j, if_neg cl, if_pos y], ?_⟩))))
        unfold tkC
        rw [h1]; exact k1 1 (Or.inr rfl)
      · have h1 : tkT T n e = 3 := by unfold tkT; rw [if_neg c, if_pos hor, if_neg j, if_neg cl, if_neg y]
        refine Or.inr (Or.inr (Or.inr (Or.inr (Or.inr (Or.inl ⟨c', cl, cd, j, y, h1, by unfold tkP; rw [if_neg c, if_pos hor, if_neg j, if_neg cl, if_neg y], by unfold tkE; rw [if_neg c, if_neg cl, if_pos cd], ?_⟩)))))
        unfold tkC
        rw [h1, if_neg (by decide), if_pos rfl]; rfl
    · have hor : ¬ (ltr (T (pA T n e)) ∨ dgt (T (pA T n e))) := fun z => z.elim cl cd
      refine Or.inr (Or.inr (Or.inr (Or.inr (Or.inr (Or.inr ⟨c', cl, cd, ?_, by unfold tkP; rw [if_neg c, if_neg hor], by unfold tkE; rw [if_neg c, if_neg cl, if_neg cd], ?_⟩)))))
      · by_cases q : sgn (T (pA T n e))
        · exact Or.inl ⟨q, by unfold tkT; rw [if_neg c, if_neg hor, if_pos q]⟩
        · exact Or.inr ⟨q, by unfold tkT; rw [if_neg c, if_neg hor, if_neg q]⟩
      · unfold tkC
        by_cases q : sgn (T (pA T n e))
        · have h1 : tkT T n e = T (pA T n e) := by unfold tkT; rw [if_neg c, if_neg hor, if_pos q]
          rw [h1]
          have q' := q
          unfold sgn at q'
          rw [if_neg (by omega), if_neg (by omega)]
        · have h1 : tkT T n e = 1 := by unfold tkT; rw [if_neg c, if_neg hor, if_neg q]
          rw [h1]; exact k1 1 (Or.inr rfl)
/-- of the token behind e the class makes this entry -/
theorem C_cutOne {T : Int → Int} {n e i jf : Int} {V : ASt} (hT : tpC T n V) (he : 0 ≤ e ∧ e ≤ n) (h4 : V 36 4 = i) (h5 : V 36 5 = pA T n e) (hi : 0 ≤ i ∧ i < 1801) (hoc : ∀ j, 0 ≤ j → j < 23 → V 37 j = ocd j) (hj : jf = 0 ∨ jf = 1) (hjn : pA T n e < n → (jf = 1 ↔ jnd T (pA T n e)) ∨ ¬ (ltr (T (pA T n e)) ∨ dgt (T (pA T n e)))) :
    Tr (f_Tokens_cutOne S0 V 36 1 jf) (fun r U => r = tkT T n e ∧ tkA V U i (tkT T n e) (tkP T n e) (tkC T n e) ∧ (tkT T n e ≠ 1 → U 36 5 = tkE T n e)) := by
  have hn := hT.2.1
  have ha := pA_r (T := T) he.1 he.2
  have h8 := tk_c8 T n e
  generalize pA T n e = a at *
  generalize tkT T n e = ty at *
  generalize tkP T n e = pl at *
  generalize tkE T n e = en at *
  generalize tkC T n e = ct at *
  unfold f_Tokens_cutOne
  rw [gd_t O_36, gd_t O_1, h5]
  refine Tr_bq (C_at hT a) ?_
  rcases h8 with ⟨c, h1, h2, h3, hc⟩ | ⟨c, hor, j, h1, h2, hc⟩ | ⟨c, cl, j, y, h1, h2, hc⟩ | ⟨c, cl, j, y, h1, h2, h3, hc⟩ | ⟨c, cl, cd, j, y, h1, h2, hc⟩ | ⟨c, cl, cd, j, y, h1, h2, h3, hc⟩ | ⟨c, cl, cd, q, h2, h3, hc⟩
  · rw [if_neg (show ¬ (0 ≤ a ∧ a < n) by omega), h5, h1, h2, h3, hc]
    refine Tr_t rfl (Tr_bnd (C_addT h4 hi (fun _ _ => rfl)) ?_)
    rintro r U ⟨u1, u2, u3⟩
    exact Tr_ret ⟨u1, u2, fun _ => by rw [u3, h5]⟩
  · -- joined
    have hTa := hT.2.2 a (by omega) c
    have z1 : jf = 1 := (hjn c).elim (fun q => q.mpr j) (fun q => absurd hor q)
    rw [if_pos (show 0 ≤ a ∧ a < n by omega)]
    refine Tr_f (by omega) (Tr_bq (C_isLetter V (T a)) ?_)
    have h47 : Tr (b_Tokens_cutOne_J47 S0 V 36) (fun r U => r = ty ∧ tkA V U i ty pl ct ∧ (ty ≠ 1 → U 36 5 = en)) := by
      unfold b_Tokens_cutOne_J47
      rw [h5, h1, h2, hc]
      refine Tr_bnd (C_addT h4 hi (fun _ _ => rfl)) ?_
      rintro r U ⟨u1, u2, u3⟩
      exact Tr_ret ⟨u1, u2, fun z => absurd rfl z⟩
    refine Tr_f (by omega) ?_
    by_cases cl : ltr (T a)
    · rw [if_pos cl]; exact Tr_f (by decide) h47
    · rw [if_neg cl]
      refine Tr_t rfl (Tr_bq (C_isDigit V (T a)) ?_)
      rw [if_pos (hor.resolve_left cl)]
      exact Tr_f (by decide) h47
  · -- a word that is too long
    have hTa := hT.2.2 a (by omega) c
    have z0 : jf = 0 := hj.elim id (fun z => absurd ((hjn c).elim (fun q => q.mp z) (fun q => absurd (Or.inl cl) q)) j)
    rw [if_pos (show 0 ≤ a ∧ a < n by omega)]
    refine Tr_f (by omega) (Tr_bq (C_isLetter V (T a)) (Tr_t z0 ?_))
    unfold b_Tokens_cutOne_J58
    rw [if_pos cl]
    refine Tr_f (by decide) (Tr_bnd (C_cutWord hT (by omega) c cl h4 h5 hi hoc) ?_)
    rintro r U (⟨u1, u2, u3⟩ | ⟨u1, -⟩)
    · rw [h1, h2, hc]
      exact Tr_ret ⟨u2, u3, fun z => absurd rfl z⟩
    · exact absurd y u1
  · have hTa := hT.2.2 a (by omega) c
    have z0 : jf = 0 := hj.elim id (fun z => absurd ((hjn c).elim (fun q => q.mp z) (fun q => absurd (Or.inl cl) q)) j)
    rw [if_pos (show 0 ≤ a ∧ a < n by omega)]
    refine Tr_f (by omega) (Tr_bq (C_isLetter V (T a)) (Tr_t z0 ?_))
    unfold b_Tokens_cutOne_J58
    rw [if_pos cl]
    refine Tr_f (by decide) (Tr_bnd (C_cutWord hT (by omega) c cl h4 h5 hi hoc) ?_)
    rintro r U (⟨u1, -⟩ | ⟨u1, u2, u3, u4⟩)
    · exact absurd u1 y
    · rw [h1, h2, h3, hc]
      exact Tr_ret ⟨u2, u3, fun _ => u4⟩
  · have hTa := hT.2.2 a (by omega) c
    have z0 : jf = 0 := hj.elim id (fun z => absurd ((hjn c).elim (fun q => q.mp z) (fun q => absurd (Or.inr cd) q)) j)
    rw [if_pos (show 0 ≤ a ∧ a < n by omega)]
    refine Tr_f (by omega) (Tr_bq (C_isLetter V (T a)) (Tr_t z0 ?_))
    unfold b_Tokens_cutOne_J58
    rw [if_neg cl]
    refine Tr_t rfl (Tr_bq (C_isDigit V (T a)) ?_)
    rw [if_pos cd]
    refine Tr_f (by decide) (Tr_bnd (C_cutNumber hT (by omega) c cd h4 h5 hi) ?_)
    rintro r U (⟨u1, u2, u3⟩ | ⟨u1, -⟩)
    · rw [h1, h2, hc]
      exact Tr_ret ⟨u2, u3, fun z => absurd rfl z⟩
    · exact absurd y u1
  · have hTa := hT.2.2 a (by omega) c
    have z0 : jf = 0 := hj.elim id (fun z => absurd ((hjn c).elim (fun q => q.mp z) (fun q => absurd (Or.inr cd) q)) j)
    rw [if_pos (show 0 ≤ a ∧ a < n by omega)]
    refine Tr_f (by omega) (Tr_bq (C_isLetter V (T a)) (Tr_t z0 ?_))
    unfold b_Tokens_cutOne_J58
    rw [if_neg cl]
    refine Tr_t rfl (Tr_bq (C_isDigit V (T a)) ?_)
    rw [if_pos cd]
    refine Tr_f (by decide) (Tr_bnd (C_cutNumber hT (by omega) c cd h4 h5 hi) ?_)
    rintro r U (⟨u1, -⟩ | ⟨u1, u2, u3, u4⟩)
    · exact absurd u1 y
    · rw [h1, h2, h3, hc]
      exact Tr_ret ⟨u2, u3, fun _ => u4⟩
  · -- a sign, or what is none
    have hTa := hT.2.2 a (by omega) c
    rw [if_pos (show 0 ≤ a ∧ a < n by omega)]
    refine Tr_f (by omega) (Tr_bq (C_isLetter V (T a)) ?_)
    rw [if_neg cl]
    have h58 : Tr (b_Tokens_cutOne_J58 S0 V 36 1 (T a) 0) (fun r U => r = ty ∧ tkA V U i ty pl ct ∧ (ty ≠ 1 → U 36 5 = en)) := by
      unfold b_Tokens_cutOne_J58
      refine Tr_t rfl (Tr_bq (C_isDigit V (T a)) ?_)
      rw [if_neg cd]
      refine Tr_t rfl ?_
      rw [h5, w32_id (x := a + 1) (by omega) (by omega)]
      refine Tr_set (fun V1 e1 n1 => ?_)
      obtain ⟨r, hr, hs⟩ := C_sign V1 hTa.2.1 hTa.2.2
      rw [gd_t (show isS (-3) = true by decide)]
      refine Tr_bq hr ?_
      have h51 : V1 36 5 = a + 1 := by rw [e1, upI_s]
      have h41 : V1 36 4 = i := by rw [e1, upI_n _ _ (by decide)]; exact h4
      have hJ : ∀ t', t' = ty → Tr (b_Tokens_cutOne_J108 S0 V1 36 36 t') (fun r U => r = ty ∧ tkA V U i ty pl ct ∧ (ty ≠ 1 → U 36 5 = en)) := by
        intro t' hty
        unfold b_Tokens_cutOne_J108
        rw [gd_t O_36, h51, w32_id (x := a + 1 - 1) (by omega) (by omega), show a + 1 - 1 = a by omega]
        refine Tr_bnd (C_addT h41 hi n1) ?_
        rintro r U ⟨u1, u2, u3⟩
        rw [hty] at u1 u2
        rw [h2, hc, h3]
        exact Tr_ret ⟨u1, u2, fun _ => by rw [u3, h51]⟩
      refine Tr_if (fun w => hJ 1 ?_) (fun w => hJ (T a) ?_)
      · rcases q with q | q
        · exact absurd q.1 (hs.mp w)
        · exact q.2.symm
      · rcases q with q | q
        · exact q.2.symm
        · exact absurd (hs.mpr q.1) w
    refine Tr_if (fun _ => h58) (fun _ => Tr_t rfl (Tr_bq (C_isDigit V (T a)) ?_))
    rw [if_neg cd]
    exact Tr_t rfl h58
/-- blanks before a token are blanks -/
theorem skp_b (T : Int → Int) (n : Int) : ∀ (m : Nat) (i j : Int), i ≤ j → j < skp T n m i → T j = 32 ∨ T j = 10 := by
  intro m
  induction m with
  | zero => intro i j h1 h2; rw [skp] at h2; omega
  | succ m ih =>
    intro i j h1 h2
    rw [skp] at h2
    by_cases c : i < n ∧ (T i = 32 ∨ T i = 10)
    · rw [if_pos c] at h2
      by_cases z : j = i
      · rw [z]; exact c.2
      · exact ih (i + 1) j (by omega) h2
    · rw [if_neg c] at h2; omega
/-- the tokens up to the last lie in the rows -/
def tkS (T : Int → Int) (n N : Int) (V : ASt) : Prop := V 36 4 = N + 1 ∧ ∀ k, 0 ≤ k → k ≤ N → V 38 k = kT T n k ∧ V 39 k = kP T n k ∧ V 40 k = kC T n k
theorem C_cut {T : Int → Int} {n N : Int} {V : ASt} (hT : tpC T n V) (hN : lstK T n N) (hoc : ∀ j, 0 ≤ j → j < 23 → V 37 j = ocd j) : Tr (f_Tokens_cut S0 V 36 1) (fun _ U => tkS T n N U ∧ ∀ c, c ≠ 36 → c ≠ 38 → c ≠ 39 → c ≠ 40 → U c = V c) := by
  have hn := hT.2.1
  unfold f_Tokens_cut
  rw [gd_t O_36]
  refine Tr_set (fun V1 e1 n1 => ?_)
  refine Tr_set (fun V2 e2 n2 => ?_)
  have hlp : ∀ (f : Nat) (i : Int) (W : ASt) (ty : Int), 0 ≤ i → i ≤ N + 1 → N + 1 - i < f → W 36 4 = i → (i ≤ N → W 36 5 = eK T n i.toNat) → (∀ c, c ≠ 36 → c ≠ 38 → c ≠ 39 → c ≠ 40 → W c = V c) → (∀ k, 0 ≤ k → k < i → W 38 k = kT T n k ∧ W 39 k = kP T n k ∧ W 40 k = kC T n k) → (i = 0 → ty = -1) → (0 < i → ty = kT T n (i - 1)) →
      Tr (b_Tokens_cut_L14 S0 36 1 f W ty i) (fun _ U => tkS T n N U ∧ ∀ c, c ≠ 36 → c ≠ 38 → c ≠ 39 → c ≠ 40 → U c = V c) := by
    intro f
    induction f with
    | zero => intro i W ty h1 h2 h3; omega
    | succ f ih =>
      intro i W ty i0 i1 hf w4 w5 fW kW t0 t1
      have hNn := hN.2.1
      have hN0 := hN.1
      by_cases hlast : i = N + 1
      · -- all are cut
        have hty : ty = 0 ∨ ty = 1 := by
          rw [t1 (by omega), show i - 1 = N by omega]; exact hN.2.2.2
        have hR : Tr (some ((0 : Int), W)) (fun _ U => tkS T n N U ∧ ∀ c, c ≠ 36 → c ≠ 38 → c ≠ 39 → c ≠ 40 → U c = V c) := Tr_ret ⟨⟨by omega, fun k k0 k1 => kW k k0 (by omega)⟩, fW⟩
        rw [b_Tokens_cut_L14]
        refine Tr_if (fun _ => hR) (fun _ => ?_)
        refine Tr_if (fun _ => hR) (fun z => Tr_t (by omega) hR)
      have hiN : i ≤ N := by omega
      have he := eK_n hn.1 hN i0 hiN
      have w5' := w5 hiN
      have tW := tpC_k hT (fW 1 (by decide) (by decide) (by decide) (by decide)) (fW 2 (by decide) (by decide) (by decide) (by decide))
      have hocW : ∀ j, 0 ≤ j → j < 23 → W 37 j = ocd j := fun j j0 j1 => by rw [fW 37 (by decide) (by decide) (by decide) (by decide)]; exact hoc j j0 j1
      have hprev : 0 < i → ty ≠ 0 ∧ ty ≠ 1 := fun hi => by
        rw [t1 hi]; exact hN.2.2.1 (i - 1) (by omega) (by omega)
      -- what cutting one more leads to
      have hone : ∀ (jn' : Int), (jn' = 0 ∨ jn' = 1) → (jn' = 1 ↔ (ty = 3 ∨ ty = 2 ∨ 256 ≤ ty)) → Tr (b_Tokens_cut_L60 S0 (b_Tokens_cut_L14 S0 36 1 f) 36 1 i (eK T n i.toNat) jn' FU W) (fun _ U => tkS T n N U ∧ ∀ c, c ≠ 36 → c ≠ 38 → c ≠ 39 → c ≠ 40 → U c = V c) := by
        intro jn' hj1 hj2
        have h98 : ∀ (Y : ASt), Y 36 5 = pA T n (eK T n i.toNat) → Y 36 4 = i → (∀ c, c ≠ 36 → Y c = W c) → Tr (b_Tokens_cut_J98 S0 (b_Tokens_cut_L14 S0 36 1 f) Y 36 1 i (eK T n i.toNat) jn') (fun _ U => tkS T n N U ∧ ∀ c, c ≠ 36 → c ≠ 38 → c ≠ 39 → c ≠ 40 → U c = V c) := by
          intro Y y5 y4 fY
          have tY := tpC_k tW (fY 1 (by decide)) (fY 2 (by decide))
          have ha := pA_r (T := T) (show 0 ≤ eK T n i.toNat by omega) he.2
          have hJ : ∀ jf, (jf = 0 ∨ jf = 1) → (jf = 1 ↔ (jn' = 1 ∧ pA T n (eK T n i.toNat) = eK T n i.toNat)) → Tr (b_Tokens_cut_J119 S0 (b_Tokens_cut_L14 S0 36 1 f) Y 36 1 i 36 1 jf) (fun _ U => tkS T n N U ∧ ∀ c, c ≠ 36 → c ≠ 38 → c ≠ 39 → c ≠ 40 → U c = V c) := by
            intro jf hf1 hf2
            unfold b_Tokens_cut_J119
            rw [gd_t O_36]
            refine Tr_bnd (C_cutOne tY ⟨by omega, he.2⟩ y4 y5 ⟨i0, by omega⟩ (fun j j0 j1 => by rw [fY 37 (by decide)]; exact hocW j j0 j1) hf1 (fun ham => ?_)) ?_
            · -- joined or not
              left
              constructor
              · intro z
                obtain ⟨z1, z2⟩ := hf2.mp z
                have hk := hj2.mp z1
                have hi0 : 0 < i := by
                  by_cases q : i = 0
                  · have := t0 q; omega
                  · omega
                have hp := hprev hi0
                have he' := eK_n hn.1 hN (show 0 ≤ i - 1 by omega) (by omega)
                have es := eK_s (T := T) (n := n) (k := i - 1) (by omega)
                rw [show i - 1 + 1 = i by omega] at es
                rw [t1 hi0] at hp hk
                have hg := tk_good (T := T) (n := n) (e := eK T n (i - 1).toNat) (by omega) he'.2 hp.1 hp.2
                rw [← es] at hg
                rw [z2]
                have hq : kT T n (i - 1) = 2 ∨ kT T n (i - 1) = 3 ∨ 256 ≤ kT T n (i - 1) := by omega
                exact ⟨by omega, hg.2.2.mpr hq⟩
              · intro hjj
                have hae : pA T n (eK T n i.toNat) = eK T n i.toNat := by
                  by_cases q : pA T n (eK T n i.toNat) = eK T n i.toNat
                  · exact q
                  · have hb := skp_b T n 2000 (eK T n i.toNat) (pA T n (eK T n i.toNat) - 1) (by omega) (by unfold pA; unfold pA at q; omega)
                    have := hjj.2
                    omega
                refine hf2.mpr ⟨hj2.mpr ?_, hae⟩
                rw [hae] at hjj
                have hi0 : 0 < i := by
                  by_cases q : i = 0
                  · have h0' := hjj.1
                    rw [q] at h0'
                    have z0 : eK T n (0 : Int).toNat = 0 := rfl
                    omega
                  · omega
                have hp := hprev hi0
                have he' := eK_n hn.1 hN (show 0 ≤ i - 1 by omega) (by omega)
                have es := eK_s (T := T) (n := n) (k := i - 1) (by omega)
                rw [show i - 1 + 1 = i by omega] at es
                rw [t1 hi0] at hp ⊢
                have hg := tk_good (T := T) (n := n) (e := eK T n (i - 1).toNat) (by omega) he'.2 hp.1 hp.2
                rw [← es] at hg
                have hq : kT T n (i - 1) = 2 ∨ kT T n (i - 1) = 3 ∨ 256 ≤ kT T n (i - 1) := hg.2.2.mp hjj.2
                omega
            rintro r U ⟨u1, ⟨u2, u3, u4, u5, u6⟩, u7⟩
            rw [w32_id (x := i + 1) (by omega) (by omega)]
            refine ih (i + 1) U r (by omega) (by omega) (by omega) u2 (fun hle => ?_) (fun c c1 c2 c3 c4 => by rw [u6 c c1 c2 c3 c4, fY c c1, fW c c1 c2 c3 c4]) (fun k k0 k1 => ?_) (fun z => by omega) (fun _ => ?_)
            · rw [eK_s i0]
              refine u7 ?_
              have := hN.2.2.1 i i0 (by omega)
              exact this.2
            · rw [u3, u4, u5, fY 38 (by decide), fY 39 (by decide), fY 40 (by decide)]
              by_cases z : k = i
              · rw [z, upI_s, upI_s, upI_s]; exact ⟨rfl, rfl, rfl⟩
              · rw [upI_n _ _ z, upI_n _ _ z, upI_n _ _ z]; exact kW k k0 (by omega)
            · rw [u1, show i + 1 - 1 = i by omega]; rfl
          unfold b_Tokens_cut_J98
          refine Tr_if (fun z => hJ 0 (Or.inl rfl) ⟨fun q => by omega, fun q => by omega⟩) (fun z => ?_)
          rw [y5]
          refine Tr_if (fun q => hJ 1 (Or.inr rfl) ⟨fun _ => ⟨by omega, q⟩, fun _ => rfl⟩) (fun q => hJ 0 (Or.inl rfl) ⟨fun w => by omega, fun w => absurd w.2 q⟩)
        have hsk : ∀ (m s : Nat) (j : Int) (Y : ASt), 0 ≤ j → j ≤ n → n - j < m → n - j < s → skp T n s j = pA T n (eK T n i.toNat) → Y 36 5 = j → Y 36 4 = i → (∀ c, c ≠ 36 → Y c = W c) → Tr (b_Tokens_cut_L60 S0 (b_Tokens_cut_L14 S0 36 1 f) 36 1 i (eK T n i.toNat) jn' m Y) (fun _ U => tkS T n N U ∧ ∀ c, c ≠ 36 → c ≠ 38 → c ≠ 39 → c ≠ 40 → U c = V c) := by
          intro m
          induction m with
          | zero => intro s j Y h1 h2 h3; omega
          | succ m ihm =>
            intro s j Y j0 j1 hm hs hk y5 y4 fY
            have tY := tpC_k tW (fY 1 (by decide)) (fY 2 (by decide))
            obtain ⟨s', es⟩ : ∃ s', s = s' + 1 := ⟨s - 1, by omega⟩
            subst es
            rw [skp] at hk
            rw [b_Tokens_cut_L60, gd_t O_1, tY.1, y5]
            refine Tr_if (fun q => ?_) (fun q => ?_)
            · rw [if_neg (by omega)] at hk
              exact h98 Y (by rw [y5]; exact hk) y4 fY
            refine Tr_bq (C_at tY j) ?_
            rw [if_pos (show 0 ≤ j ∧ j < n by omega)]
            unfold f_Tokens_isBlank
            by_cases b1 : T j = 10 ∨ T j = 32
            · have hb : (if T j = 10 then some ((1 : Int), Y) else if T j = 32 then some (1, Y) else some (0, Y)) = some (1, Y) := by
                by_cases b2 : T j = 10
                · rw [if_pos b2]
                · rw [if_neg b2, if_pos (b1.resolve_left b2)]
              refine Tr_bq hb (Tr_f (by decide) ?_)
              rw [if_pos ⟨by omega, b1.symm⟩] at hk
              rw [y5, w32_id (x := j + 1) (by omega) (by omega)]
              refine Tr_set (fun Y1 a1 c1 => ?_)
              exact ihm s' (j + 1) Y1 (by omega) (by omega) (by omega) (by omega) hk (by rw [a1, upI_s]) (by rw [a1, upI_n _ _ (by decide)]; exact y4) (fun c hc => by rw [c1 c hc, fY c hc])
            · have hb : (if T j = 10 then some ((1 : Int), Y) else if T j = 32 then some (1, Y) else some (0, Y)) = some (0, Y) := by
                rw [if_neg (fun z => b1 (Or.inl z)), if_neg (fun z => b1 (Or.inr z))]
              refine Tr_bq hb (Tr_t rfl ?_)
              rw [if_neg (fun z => b1 z.2.symm)] at hk
              exact h98 Y (by rw [y5]; exact hk) y4 fY
        exact hsk FU 2000 (eK T n i.toNat) W (by omega) he.2 (by rw [FU_v]; omega) (by omega) rfl w5' w4 (fun _ _ => rfl)
      rw [b_Tokens_cut_L14, w5']
      refine Tr_f (by omega) ?_
      refine Tr_f (fun z => ?_) (Tr_f (fun z => ?_) ?_)
      · by_cases q : i = 0
        · have := t0 q; omega
        · exact (hprev (by omega)).1 z
      · by_cases q : i = 0
        · have := t0 q; omega
        · exact (hprev (by omega)).2 z
      refine Tr_if (fun z => hone 1 (Or.inr rfl) ⟨fun _ => Or.inl z, fun _ => rfl⟩) (fun z => ?_)
      refine Tr_if (fun z2 => hone 1 (Or.inr rfl) ⟨fun _ => Or.inr (Or.inl z2), fun _ => rfl⟩) (fun z2 => ?_)
      refine Tr_if (fun z3 => hone 0 (Or.inl rfl) ⟨fun q => by omega, fun q => by omega⟩) (fun z3 => hone 1 (Or.inr rfl) ⟨fun _ => Or.inr (Or.inr (by omega)), fun _ => rfl⟩)
  have hN0 := hN.1
  have hN1 := hN.2.1
  refine hlp FU 0 V2 (-1) (by omega) (by omega) (by rw [FU_v]; omega) (by rw [e2, upI_n _ _ (by decide), e1, upI_s]) (fun _ => by rw [e2, upI_s]; rfl) (fun c c1 _ _ _ => by rw [n2 c c1, n1 c c1]) (fun k k0 k1 => by omega) (fun _ => rfl) (fun z => by omega)
