/-! the reference reads a test -/
theorem inl_i {a b : MS} (h : (some (Sum.inl a) : Option (MS ⊕ RS)) = some (Sum.inl b)) : a = b := Sum.inl.inj (Option.some.inj h)
theorem opnS_k {K : TKs} {p kq pq kd ph pr bs : Int} {r : List FR} {os : List Int} {cs : CDs} {t : MS} (h : opnS K p kq pq kd ph pr bs r os cs = some (Sum.inl t)) : t.1 = p + 1 ∧ t.2.1 = 0 := by
  unfold opnS at h
  by_cases c : (r.length : Int) = 8
  · rw [if_pos c] at h; cases h
  · rw [if_neg c] at h
    rw [← inl_i h]
    exact ⟨rfl, rfl⟩
theorem stO_k {K : TKs} {ns : List (List Int)} {k kd ph bg pr bs : Int} {r : List FR} {os : List Int} {cs : CDs} {t : MS} (h : stO K ns k kd ph bg pr bs r os cs = some (Sum.inl t)) : K.1 k ≠ 0 ∧ K.1 k ≠ 1 ∧ (t.1 = k + 1 ∨ (t.1 = k + 1 + 1 ∧ K.1 (k + 1) = 40)) ∧ (t.2.1 = 0 ∨ t.2.1 = 1) := by
  unfold stO at h
  by_cases c1 : (kd = 1 ∨ kd = 5) ∧ bg = 1 ∧ K.1 k = 266
  · rw [if_pos c1] at h
    rw [← inl_i h]
    exact ⟨by omega, by omega, Or.inl rfl, Or.inl rfl⟩
  rw [if_neg c1] at h
  by_cases c2 : (kd = 1 ∨ kd = 5) ∧ bg = 1 ∧ K.1 k = 91
  · rw [if_pos c2] at h
    have := opnS_k h
    exact ⟨by omega, by omega, Or.inl this.1, Or.inl this.2⟩
  rw [if_neg c2] at h
  by_cases c3 : (kd = 1 ∨ kd = 5) ∧ bg = 1 ∧ K.1 k = 273
  · rw [if_pos c3] at h
    rw [← inl_i h]
    exact ⟨by omega, by omega, Or.inl rfl, Or.inr rfl⟩
  rw [if_neg c3] at h
  by_cases c4 : K.1 k = 40
  · rw [if_pos c4] at h
    have := opnS_k h
    exact ⟨by omega, by omega, Or.inl this.1, Or.inl this.2⟩
  rw [if_neg c4] at h
  by_cases c5 : K.1 k = 277 ∨ K.1 k = 278
  · rw [if_pos c5] at h
    by_cases d : K.1 (k + 1) = 40
    · rw [if_pos d] at h
      have := opnS_k h
      exact ⟨by omega, by omega, Or.inr ⟨this.1, d⟩, Or.inl this.2⟩
    · rw [if_neg d] at h; cases h
  rw [if_neg c5] at h
  by_cases c6 : K.1 k = 2 ∧ pixF (K.2.2.1 k) ns 0 = -1
  · rw [if_pos c6] at h; cases h
  rw [if_neg c6] at h
  by_cases c7 : K.1 k = 3 ∨ K.1 k = 274 ∨ K.1 k = 275 ∨ K.1 k = 276 ∨ K.1 k = 2
  · rw [if_pos c7] at h
    rw [← inl_i h]
    exact ⟨by omega, by omega, Or.inl rfl, Or.inr rfl⟩
  · rw [if_neg c7] at h; cases h
theorem stG_k {K : TKs} {k kd ph bg pr bs : Int} {r : List FR} {os : List Int} {cs : CDs} {t : MS} (h : stG K k kd ph bg pr bs r os cs = some (Sum.inl t)) : K.1 k ≠ 0 ∧ K.1 k ≠ 1 ∧ t.1 = k + 1 ∧ (t.2.1 = 0 ∨ t.2.1 = 1) := by
  unfold stG at h
  by_cases c1 : ph < 2 ∧ (K.1 k = 43 ∨ K.1 k = 45 ∨ K.1 k = 42 ∨ K.1 k = 47 ∨ K.1 k = 37)
  · rw [if_pos c1] at h
    rw [← inl_i h]
    exact ⟨by omega, by omega, rfl, Or.inl rfl⟩
  rw [if_neg c1] at h
  by_cases c2 : (kd = 1 ∨ kd = 5) ∧ ph = 0 ∧ (K.1 k = 60 ∨ K.1 k = 62 ∨ K.1 k = 61)
  · rw [if_pos c2] at h
    rw [← inl_i h]
    exact ⟨by omega, by omega, rfl, Or.inl rfl⟩
  rw [if_neg c2] at h
  by_cases c3 : (kd = 1 ∨ kd = 5) ∧ (K.1 k = 272 ∨ K.1 k = 271)
  · rw [if_pos c3] at h
    by_cases d : ph = 0
    · rw [if_pos d] at h; cases h
    · rw [if_neg d] at h
      rw [← inl_i h]
      exact ⟨by omega, by omega, rfl, Or.inl rfl⟩
  rw [if_neg c3] at h
  by_cases c4 : (kd = 1 ∨ kd = 5) ∧ ph = 0
  · rw [if_pos c4] at h; cases h
  rw [if_neg c4] at h
  by_cases c5 : kd < 2
  · rw [if_pos c5] at h; cases h
  rw [if_neg c5] at h
  by_cases c6 : kd = 3
  · rw [if_pos c6] at h
    by_cases d : K.1 k = 44
    · rw [if_pos d] at h
      rw [← inl_i h]
      exact ⟨by omega, by omega, rfl, Or.inl rfl⟩
    · rw [if_neg d] at h; cases h
  rw [if_neg c6] at h
  by_cases c7 : (r.length : Int) = 0
  · rw [if_pos c7] at h; cases h
  rw [if_neg c7] at h
  by_cases c8 : K.1 k = (if kd = 5 then 93 else 41)
  · rw [if_pos c8] at h
    rw [← inl_i h]
    have h9 : (if kd = 5 then (93 : Int) else 41) = 93 ∨ (if kd = 5 then (93 : Int) else 41) = 41 := by
      by_cases z : kd = 5
      · exact Or.inl (if_pos z)
      · exact Or.inr (if_neg z)
    rw [← c8] at h9
    exact ⟨by omega, by omega, rfl, Or.inr rfl⟩
  · rw [if_neg c8] at h; cases h
def RdE (T : Int → Int) (n b : Int) (R : RS) (U : ASt) : Prop := (R.1 = 0 ∧ U 142 8 = 0 ∧ rKt T n R.2.1 U ∧ cdR b R.2.2 U) ∨ (R.1 ≠ 0 ∧ U 142 8 = R.1 ∧ U 142 9 = R.2.1)
theorem M_loop {T : Int → Int} {n N b : Int} {ns : List (List Int)} (hb : b = 0 ∨ b = 1) (hL : lstK T n N) : ∀ (f : Nat) (k x : Int) (fs : List FR) (os : List Int) (cs : CDs) (V : ASt) (R : RS), mR (tkK T n) ns (kH T n) f (k, x, fs, os, cs) = some R → M0 T n b ns k fs os cs V → V 142 40 = x → (x = 0 ∨ x = 1) → 0 ≤ k ∧ k ≤ N →
    Tr (b_M_reads_J70 S0 (b_M_reads_L43 S0 142 (f + 1)) V 142 1) (fun _ U => fmV b V U ∧ RdE T n b R U) := by
  intro f
  induction f with
  | zero => intro k x fs os cs V R h; cases h
  | succ f ih =>
    intro k x fs os cs V R hm h h40 hx hk
    have hm' : mK (mR (tkK T n) ns (kH T n) f) (stp (tkK T n) ns (kH T n) (k, x, fs, os, cs)) = some R := hm
    have hgd : gdS k fs os cs := by
      by_cases c : gdS k fs os cs
      · exact c
      · have e : stp (tkK T n) ns (kH T n) (k, x, fs, os, cs) = none := by unfold stp; rw [if_neg c]
        rw [e] at hm'; cases hm'
    unfold b_M_reads_J70
    refine Tr_f (by decide) (Tr_if (fun h8 => ?_) (fun h8 => ?_))
    · have hH : kH T n k ≠ 1 := by have := (rKt_c h.1 h8).1; omega
      cases fs with
      | nil =>
        have e : stp (tkK T n) ns (kH T n) (k, x, [], os, cs) = none := by unfold stp; rw [if_pos hgd, if_neg hH]
        rw [e] at hm'; cases hm'
      | cons F r =>
        obtain ⟨kd, ph, bg, pr, bs⟩ := F
        rw [b_M_reads_L43]
        refine Tr_f (by decide) ?_
        rcases hx with hx | hx
        · subst hx
          have e := st_O (K := tkK T n) (ns := ns) (H := kH T n) hgd hH
          rw [e] at hm'
          refine Tr_t h40 (Tr_bnd (M_operand hb hL hk h.1 (h.2 h8) h8 hgd) ?_)
          rintro y U ⟨fU, hy, hU⟩
          rw [zb_t hy]
          refine Tr_set (fun W eW nW => ?_)
          have sW : ∀ j, j ≠ 40 → W 142 j = U 142 j := fun j hj => by rw [eW, upI_n _ _ hj]
          have fW : fmV b V W := fmV_tr fU (fmV_40 sW nW)
          rcases hU with ⟨s, hs, hM, hys⟩ | ⟨q, i, c, hs, hq, e8, e9⟩
          · obtain ⟨s1, s2, s3, s4, s5⟩ := s
            have hk' := stO_k hs
            have hk1 : k < N := K_lt hL hk.2 hk'.1 hk'.2.1
            rw [hs] at hm'
            have hk2 : 0 ≤ s1 ∧ s1 ≤ N := by
              rcases hk'.2.2.1 with z | ⟨z, z2⟩
              · have z' : s1 = k + 1 := z
                omega
              · have z' : s1 = k + 1 + 1 := z
                have := K_lt (k := k + 1) hL (by omega) (by omega) (by omega)
                omega
            refine Tr_mono (ih s1 s2 s3 s4 s5 W R hm' (M0_s hM sW nW) (by rw [eW, upI_s]; exact hys) hk'.2.2.2 hk2) (fun _ X hX => ⟨fmV_tr fW hX.1, hX.2⟩)
          · rw [hs] at hm'
            have hR : (q, i, c) = R := Option.some.inj hm'
            subst hR
            unfold b_M_reads_J70
            refine Tr_f (by decide) (Tr_f (by rw [sW 8 (by decide), e8]; exact hq) ?_)
            rw [b_M_reads_L43]
            exact Tr_t rfl (Tr_ret ⟨fW, Or.inr ⟨hq, by rw [sW 8 (by decide)]; exact e8, by rw [sW 9 (by decide)]; exact e9⟩⟩)
        · subst hx
          have e := st_G (K := tkK T n) (ns := ns) (H := kH T n) hgd hH
          rw [e] at hm'
          have hne : stG (tkK T n) k kd ph bg pr bs r os cs ≠ none := fun z => by rw [z] at hm'; cases hm'
          refine Tr_f (by omega) (Tr_bnd (M_goesOn hb hL hk h.1 (h.2 h8) h8 h40 hgd hne) ?_)
          rintro y U ⟨fU, hU⟩
          rcases hU with ⟨s, hs, hM, hy, hys⟩ | ⟨q, i, c, hs, hq, e8, e9⟩ | ⟨i, c, hs, hy, e8, e9, e10⟩
          · obtain ⟨s1, s2, s3, s4, s5⟩ := s
            have hk' := stG_k hs
            have hk1 : k < N := K_lt hL hk.2 hk'.1 hk'.2.1
            rw [hs] at hm'
            have z' : s1 = k + 1 := hk'.2.2.1
            subst hy
            refine Tr_mono (ih s1 s2 s3 s4 s5 U R hm' hM hys hk'.2.2.2 (by omega)) (fun _ X hX => ⟨fmV_tr fU hX.1, hX.2⟩)
          · rw [hs] at hm'
            have hR : (q, i, c) = R := Option.some.inj hm'
            subst hR
            have fin : Tr (b_M_reads_L43 S0 142 (f + 1) U 0) (fun _ X => fmV b V X ∧ RdE T n b (q, i, c) X) := by
              rw [b_M_reads_L43]
              exact Tr_t rfl (Tr_ret ⟨fU, Or.inr ⟨hq, e8, e9⟩⟩)
            unfold b_M_reads_J70
            exact Tr_if (fun _ => fin) (fun _ => Tr_f (by rw [e8]; exact hq) fin)
          · rw [hs] at hm'
            have hR : (0, i, c) = R := Option.some.inj hm'
            subst hR
            unfold b_M_reads_J70
            refine Tr_t hy ?_
            rw [b_M_reads_L43]
            exact Tr_t rfl (Tr_ret ⟨fU, Or.inl ⟨rfl, e8, e9, e10⟩⟩)
    · obtain ⟨e8, e9, eH⟩ := rKt_h h.1 h8
      have e : stp (tkK T n) ns (kH T n) (k, x, fs, os, cs) = some (Sum.inr (1, (tkK T n).2.1 k, cs)) := by unfold stp; rw [if_pos hgd, if_pos eH]
      rw [e] at hm'
      have hR : (1, (tkK T n).2.1 k, cs) = R := Option.some.inj hm'
      subst hR
      rw [b_M_reads_L43]
      exact Tr_t rfl (Tr_ret ⟨fmV_rfl b V, Or.inr ⟨by show (1 : Int) ≠ 0; decide, e8, e9⟩⟩)
def PSE (T : Int → Int) (n b : Int) (cs : CDs) (A : R3) (U : ASt) : Prop := (A.1 = 0 ∧ kH T n A.2.1 ≠ 1 ∧ U 142 8 = 0 ∧ rKt T n A.2.1 U ∧ cdR b (cs ++ A.2.2.1) U) ∨ (A.1 = 0 ∧ kH T n A.2.1 = 1 ∧ U 142 8 = 1 ∧ U 142 9 = kP T n A.2.1) ∨ (A.1 ≠ 0 ∧ U 142 8 = A.1 ∧ U 142 9 = A.2.1)
theorem M_reads {T : Int → Int} {n N b k : Int} {ns : List (List Int)} {cs : CDs} {V : ASt} {m : Nat} (hb : b = 0 ∨ b = 1) (hL : lstK T n N) (hC : mCX (tkK T n) (kH T n) N) (hk : 0 ≤ k ∧ k ≤ N) (hcs : (cs.length : Int) ≤ k) (h9 : (ps (tkK T n) ns m 0 k 0).1 ≠ 9) (hX : LX T n V) (hr : rKt T n k V) (h8 : V 142 8 = 0) (h30 : V 142 30 = b) (hcd : cdR b cs V) (hnm : nmR b ns V) :
    Tr (f_M_reads S0 V 142 1) (fun _ U => fmV b V U ∧ PSE T n b cs (ps (tkK T n) ns m 0 k 0) U) := by
  unfold f_M_reads
  rw [gd_t O_142]
  refine Tr_t (by omega) ?_
  refine Tr_set (fun V1 e1 n1 => ?_)
  refine Tr_set (fun V2 e2 n2 => ?_)
  refine Tr_set (fun V3 e3 n3 => ?_)
  refine Tr_set (fun V4 e4 n4 => ?_)
  refine Tr_f (by decide) ?_
  have s4 : ∀ j, j ≠ 36 → j ≠ 37 → j ≠ 39 → j ≠ 40 → V4 142 j = V 142 j := fun j j1 j2 j3 j4 => by rw [e4, upI_n _ _ j4, e3, upI_n _ _ j3, e2, upI_n _ _ j2, e1, upI_n _ _ j1]
  have o4 : ∀ a, a ≠ 142 → V4 a = V a := fun a ha => by rw [n4 a ha, n3 a ha, n2 a ha, n1 a ha]
  have d36 : V4 142 36 = 0 := by rw [e4, upI_n _ _ (by decide), e3, upI_n _ _ (by decide), e2, upI_n _ _ (by decide), e1, upI_s]
  have d37 : V4 142 37 = 0 := by rw [e4, upI_n _ _ (by decide), e3, upI_n _ _ (by decide), e2, upI_s]
  have d39 : V4 142 39 = 0 := by rw [e4, upI_n _ _ (by decide), e3, upI_s]
  have d40 : V4 142 40 = 0 := by rw [e4, upI_s]
  unfold b_M_reads_J38
  rw [gd_t O_142]
  refine Tr_bnd (M_pushes (kq := 1) d36 (by decide)) ?_
  rintro _ W ⟨u160, u161, u162, u163, u164, u142, uo⟩
  have sW : ∀ j, j ≠ 36 → j ≠ 37 → j ≠ 39 → j ≠ 40 → W 142 j = V 142 j := fun j j1 j2 j3 j4 => by rw [u142, upI_n _ _ j1, s4 j j1 j2 j3 j4]
  have oW : ∀ a, a ≠ 142 → (a < 160 ∨ 164 < a) → W a = V a := fun a a1 a2 => by rw [uo a a1 a2, o4 a a1]
  have fW : fmV b V W := fmV_n (fun a a1 a2 => oW a a1 (by omega)) (fun j _ _ j3 j4 j5 j6 => sW j j3 j4 j5 j6)
  have tW : ∀ j, 3 ≤ j → j ≤ 9 → W 142 j = V 142 j := fun j j1 j2 => sW j (by omega) (by omega) (by omega) (by omega)
  have rW : rKt T n k W := by
    unfold rKt rTk at *
    rw [tW 8 (by decide) (by decide), tW 9 (by decide) (by decide), tW 4 (by decide) (by decide), tW 5 (by decide) (by decide), tW 3 (by decide) (by decide), tW 6 (by decide) (by decide), tW 7 (by decide) (by decide)]
    exact hr
  have w8 : W 142 8 = 0 := by rw [tW 8 (by decide) (by decide)]; exact h8
  have mW : M1 T n b ns [(1, 0, 1, 0, 0)] [] cs W := by
    refine ⟨LX_V hX fW, by rw [u142, upI_s]; rfl, by rw [u142, upI_n _ _ (by decide), d37]; rfl, by rw [u142, upI_n _ _ (by decide), d39]; rfl, trivial, ⟨⟨by rw [u160]; exact upI_s _ _ _, by rw [u161]; exact upI_s _ _ _, by rw [u162]; exact upI_s _ _ _, Or.inr rfl, fun z => ?_, by rw [u164, d39]; exact upI_s _ _ _, Int.le_refl _⟩, trivial⟩, ?_, by rw [sW 30 (by decide) (by decide) (by decide) (by decide)]; exact h30, nmR_k hnm fW⟩
    · have z' : (1 : Int) = 3 ∨ (1 : Int) = 4 := z
      omega
    · unfold cdR at *
      rw [sW 29 (by decide) (by decide) (by decide) (by decide), oW 158 (by decide) (by decide), oW 159 (by decide) (by decide)]
      exact hcd
  have w40 : W 142 40 = 0 := by rw [u142, upI_n _ _ (by decide)]; exact d40
  have hn := hX.2.1
  have hNn := hL.2.1
  obtain ⟨j, hj, hcase⟩ := m_test (cs := cs) hC hk hcs h9
  have run : ∀ R : RS, (∀ f, mR (tkK T n) ns (kH T n) (f + j) (k, 0, [(1, 0, 1, 0, 0)], [], cs) = some R) → Tr (b_M_reads_L43 S0 142 FU W 1) (fun _ U => fmV b V U ∧ RdE T n b R U) := by
    intro R hR
    have h1 := M_loop hb hL (99999 - j + j) k 0 [(1, 0, 1, 0, 0)] [] cs W R (hR (99999 - j)) ⟨rW, fun _ => mW⟩ w40 (Or.inl rfl) hk
    unfold b_M_reads_J70 at h1
    rw [if_neg (by decide), if_pos w8, show 99999 - j + j + 1 = FU by rw [FU_v]; omega] at h1
    exact Tr_mono h1 (fun _ U hU => ⟨fmV_tr fW hU.1, hU.2⟩)
  rcases hcase with ⟨a, b1, b2⟩ | ⟨a, b1, c, b2⟩ | ⟨a, c, b2⟩
  · refine Tr_mono (run _ b2) (fun _ U hU => ⟨hU.1, Or.inl ⟨a, b1, ?_⟩⟩)
    rcases hU.2 with ⟨-, q2, q3, q4⟩ | ⟨q1, -⟩
    · exact ⟨q2, q3, q4⟩
    · exact absurd rfl q1
  · refine Tr_mono (run _ b2) (fun _ U hU => ⟨hU.1, Or.inr (Or.inl ⟨a, b1, ?_⟩)⟩)
    rcases hU.2 with ⟨q1, -⟩ | ⟨-, q2, q3⟩
    · exact absurd q1 (show ¬ (1 : Int) = 0 by decide)
    · exact ⟨q2, q3⟩
  · refine Tr_mono (run _ b2) (fun _ U hU => ⟨hU.1, Or.inr (Or.inr ⟨a, ?_⟩)⟩)
    rcases hU.2 with ⟨q1, -⟩ | ⟨-, q2, q3⟩
    · exact absurd q1 a
    · exact ⟨q2, q3⟩
