/-! the reference looks ahead -/
def LX (T : Int → Int) (n : Int) (V : ASt) : Prop := V 142 2 = n ∧ (0 ≤ n ∧ n ≤ 1800) ∧ ∀ i, 0 ≤ i → i < n → V 143 i = T i ∧ 0 ≤ T i ∧ T i ≤ 255
theorem LX_A {T : Int → Int} {n : Int} {V U : ASt} (h : LX T n V) (f : frA V U) : LX T n U := ⟨by rw [f.2 2 (by omega)]; exact h.1, h.2.1, fun i i0 i1 => by rw [f.1 143 (by decide)]; exact h.2.2 i i0 i1⟩
def fSt (jn : Prop) (a mx c : Int) (V : ASt) : Prop := (jn → V 142 8 = 1 ∧ V 142 9 = a) ∧ (¬ jn → mx < c → V 142 8 = 1 ∧ V 142 9 = a + mx) ∧ (¬ jn → ¬ mx < c → V 142 8 = 0)
theorem fSt_k {jn : Prop} {a mx c : Int} {V U : ASt} (h : fSt jn a mx c V) (h8 : U 142 8 = V 142 8) (h9 : U 142 9 = V 142 9) : fSt jn a mx c U := by unfold fSt at *; rw [h8, h9]; exact h
/-- fault is found with the letter or figure that is one too many -/
theorem fSt_s {jn : Prop} {a mx c : Int} {V : ASt} (hj : jn ∨ ¬ jn) (h : fSt jn a mx c V) (Q : Int → ASt → Prop) (k : ASt → Option (Int × ASt)) (hk : ∀ U, frA V U → (∀ j, j ≠ 8 → j ≠ 9 → U 142 j = V 142 j) → fSt jn a mx (c + 1) U → Tr (k U) Q) :
    Tr (if c = mx then (bnd (f_M_blame S0 V 142 1 (a + c)) (fun _ V6 => k V6)) else k V) Q := by
  refine Tr_if (fun e => ?_) (fun e => ?_)
  · refine Tr_bnd (M_blame V 1 (a + c)) ?_
    rintro _ U ⟨u1, u2, u3, u4⟩
    refine hk U u1 u2 ⟨fun j => ?_, fun j _ => ?_, fun j c1 => absurd (by omega) c1⟩
    · have := h.1 j
      rw [(u4 (by omega)).1, (u4 (by omega)).2]; exact this
    · have := h.2.2 j (by omega)
      have := u3 (by omega)
      exact ⟨this.1, by rw [this.2]; omega⟩
  · refine hk V (frA_rfl V) (fun _ _ _ => rfl) ⟨h.1, fun j c1 => h.2.1 j (by omega), fun j c1 => h.2.2 j (by omega)⟩
theorem ah_let {T : Int → Int} {n a b : Int} {jn : Prop} {V0 : ASt} (hX : LX T n V0) (h0 : 0 ≤ a) (hj : jn ∨ ¬ jn) :
    ∀ (m s : Nat) (i : Int) (V : ASt), a ≤ i → i ≤ n → n - i < m → n - i < s → rnE T n 97 122 s i = b → frA V0 V → V 142 3 = 1 → V 142 4 = a → V 142 6 = 0 → (∀ j, a ≤ j → j < i → ltr (T j)) → (i - a ≤ 6 → V 142 7 = nm256 (sbl T (i - a).toNat a) 0) → fSt jn a 6 (i - a) V →
      Tr (b_M_ahead_L200 S0 142 1 0 6 m V i (i - a)) (fun _ U => frA V0 U ∧ U 142 3 = 1 ∧ U 142 4 = a ∧ U 142 5 = b ∧ U 142 6 = 0 ∧ (b - a ≤ 6 → U 142 7 = nm256 (sbl T (b - a).toNat a) 0) ∧ fSt jn a 6 (b - a) U) := by
  intro m
  induction m with
  | zero => intro s i V h1 h2 h3; omega
  | succ m ih =>
    intro s i V i0 i1 hm hs hb fV v3 v4 v6 hlt hw hf
    have hn := hX.2.1
    have hV := LX_A hX fV
    obtain ⟨s', es⟩ : ∃ s', s = s' + 1 := ⟨s - 1, by omega⟩
    subst es
    rw [rnE] at hb
    have hend : ¬ (i < n ∧ 97 ≤ T i ∧ T i ≤ 122) → Tr (b_M_ahead_J323 S0 V 142 i) (fun _ U => frA V0 U ∧ U 142 3 = 1 ∧ U 142 4 = a ∧ U 142 5 = b ∧ U 142 6 = 0 ∧ (b - a ≤ 6 → U 142 7 = nm256 (sbl T (b - a).toNat a) 0) ∧ fSt jn a 6 (b - a) U) := by
      intro hc
      rw [if_neg hc] at hb
      subst hb
      unfold b_M_ahead_J323
      refine Tr_set (fun V1 e1 n1 => Tr_ret ⟨frA_tr fV (frA_set (by decide) e1 n1), ?_, ?_, ?_, ?_, fun z => ?_, fSt_k hf ?_ ?_⟩)
      · rw [e1, upI_n _ _ (by decide)]; exact v3
      · rw [e1, upI_n _ _ (by decide)]; exact v4
      · rw [e1, upI_s]
      · rw [e1, upI_n _ _ (by decide)]; exact v6
      · rw [e1, upI_n _ _ (by decide)]; exact hw z
      · rw [e1, upI_n _ _ (by decide)]
      · rw [e1, upI_n _ _ (by decide)]
    rw [b_M_ahead_L200, hV.1]
    refine Tr_if (fun c => hend (by omega)) (fun c => ?_)
    have hT := hV.2.2 i (by omega) (by omega)
    refine Tr_f (by decide) ?_
    rw [F_142_0, A_143, gd_in (by omega) (by omega), hT.1]
    refine Tr_bq (M_isLetter V (T i)) ?_
    by_cases cl : ltr (T i)
    · rw [if_pos cl]
      refine Tr_f (by decide) ?_
      rw [if_pos ⟨by omega, cl.1, cl.2⟩] at hb
      unfold b_M_ahead_J239
      have hst := fSt_s (a := a) (mx := 6) (c := i - a) hj hf
      rw [show a + (i - a) = i by omega] at hst
      refine hst _ _ (fun U u1 u2 u3 => ?_)
      have gU : frA V0 U := frA_tr fV u1
      have hlt' : ∀ j, a ≤ j → j < i + 1 → ltr (T j) := fun j j0 j1 => by
        by_cases z : j = i
        · rw [z]; exact cl
        · exact hlt j j0 (by omega)
      have fin : ∀ W : ASt, frA U W → (∀ j, j ≠ 7 → W 142 j = U 142 j) → (i + 1 - a ≤ 6 → W 142 7 = nm256 (sbl T (i + 1 - a).toNat a) 0) → Tr (b_M_ahead_L200 S0 142 1 0 6 m W (w32 (i + 1)) (w32 (i - a + 1))) (fun _ U => frA V0 U ∧ U 142 3 = 1 ∧ U 142 4 = a ∧ U 142 5 = b ∧ U 142 6 = 0 ∧ (b - a ≤ 6 → U 142 7 = nm256 (sbl T (b - a).toNat a) 0) ∧ fSt jn a 6 (b - a) U) := by
        intro W w1 w2 w3
        rw [w32_id (x := i + 1) (by omega) (by omega), w32_id (x := i - a + 1) (by omega) (by omega), show i - a + 1 = i + 1 - a by omega]
        refine ih s' (i + 1) W (by omega) (by omega) (by omega) (by omega) hb (frA_tr gU w1) ?_ ?_ ?_ hlt' w3 ?_
        · rw [w2 3 (by decide), u2 3 (by decide) (by decide)]; exact v3
        · rw [w2 4 (by decide), u2 4 (by decide) (by decide)]; exact v4
        · rw [w2 6 (by decide), u2 6 (by decide) (by decide)]; exact v6
        · rw [show i + 1 - a = i - a + 1 by omega]
          exact fSt_k u3 (w2 8 (by decide)) (w2 9 (by decide))
      unfold b_M_ahead_J252
      refine Tr_if (fun d => ?_) (fun d => ?_)
      · unfold b_M_ahead_J282
        refine Tr_t d ?_
        exact fin U (frA_rfl U) (fun _ _ => rfl) (fun z => by omega)
      · refine Tr_f (by decide) ?_
        have hU := LX_A hX gU
        have hT' := hU.2.2 i (by omega) (by omega)
        have hw' := hw (by omega)
        have hb7 := nm256_b (sbl T (i - a).toNat a) 0 (by omega) (fun c hc => by
          obtain ⟨j, j1, j2, j3⟩ := sbl_mem T _ _ _ hc
          have := hlt j j1 (by omega)
          rw [j3]; omega)
        have hl := sbl_len T (i - a).toNat a
        rw [hl] at hb7
        have hle : nm256 (sbl T (i - a).toNat a) 0 < 1099511627776 := by
          have : i - a = 0 ∨ i - a = 1 ∨ i - a = 2 ∨ i - a = 3 ∨ i - a = 4 ∨ i - a = 5 := by omega
          rcases this with z | z | z | z | z | z
          · have := hb7.2.1 (by omega); omega
          · have := hb7.2.2.1 (by omega); omega
          · have := hb7.2.2.2.1 (by omega); omega
          · have := hb7.2.2.2.2.1 (by omega); omega
          · have := hb7.2.2.2.2.2.1 (by omega); omega
          · have := hb7.2.2.2.2.2.2 (by omega); omega
        rw [F_142_0, A_143, gd_in (by omega) (by omega), hT'.1, u2 7 (by decide) (by decide), hw', or64_8 hb7.1 hle hT.2.1 hT.2.2]
        refine Tr_set (fun V4 e4 n4 => ?_)
        unfold b_M_ahead_J282
        refine Tr_f d (Tr_t rfl ?_)
        refine fin V4 (frA_set (by decide) e4 n4) (fun j hj' => by rw [e4, upI_n _ _ hj']) (fun z => ?_)
        rw [e4, upI_s, show (i + 1 - a).toNat = (i - a).toNat + 1 by omega, sbl_s, nm256_s, show a + ((i - a).toNat : Int) = i by omega]
    · rw [if_neg cl]
      exact Tr_t rfl (hend (fun z => cl z.2))
theorem ah_dig {T : Int → Int} {n a b : Int} {jn : Prop} {V0 : ASt} (hX : LX T n V0) (h0 : 0 ≤ a) (hj : jn ∨ ¬ jn) :
    ∀ (m s : Nat) (i : Int) (V : ASt), a ≤ i → i ≤ n → n - i < m → n - i < s → rnE T n 48 57 s i = b → frA V0 V → V 142 3 = 2 → V 142 4 = a → (∀ j, a ≤ j → j < i → dgt (T j)) → (i - a ≤ 4 → V 142 6 = nd (sbl T (i - a).toNat a) 0) → fSt jn a 4 (i - a) V →
      Tr (b_M_ahead_L200 S0 142 0 1 4 m V i (i - a)) (fun _ U => frA V0 U ∧ U 142 3 = 2 ∧ U 142 4 = a ∧ U 142 5 = b ∧ (b - a ≤ 4 → U 142 6 = nd (sbl T (b - a).toNat a) 0) ∧ fSt jn a 4 (b - a) U) := by
  intro m
  induction m with
  | zero => intro s i V h1 h2 h3; omega
  | succ m ih =>
    intro s i V i0 i1 hm hs hb fV v3 v4 hlt hw hf
    have hn := hX.2.1
    have hV := LX_A hX fV
    obtain ⟨s', es⟩ : ∃ s', s = s' + 1 := ⟨s - 1, by omega⟩
    subst es
    rw [rnE] at hb
    have hend : ¬ (i < n ∧ 48 ≤ T i ∧ T i ≤ 57) → Tr (b_M_ahead_J323 S0 V 142 i) (fun _ U => frA V0 U ∧ U 142 3 = 2 ∧ U 142 4 = a ∧ U 142 5 = b ∧ (b - a ≤ 4 → U 142 6 = nd (sbl T (b - a).toNat a) 0) ∧ fSt jn a 4 (b - a) U) := by
      intro hc
      rw [if_neg hc] at hb
      subst hb
      unfold b_M_ahead_J323
      refine Tr_set (fun V1 e1 n1 => Tr_ret ⟨frA_tr fV (frA_set (by decide) e1 n1), ?_, ?_, ?_, fun z => ?_, fSt_k hf ?_ ?_⟩)
      · rw [e1, upI_n _ _ (by decide)]; exact v3
      · rw [e1, upI_n _ _ (by decide)]; exact v4
      · rw [e1, upI_s]
      · rw [e1, upI_n _ _ (by decide)]; exact hw z
      · rw [e1, upI_n _ _ (by decide)]
      · rw [e1, upI_n _ _ (by decide)]
    rw [b_M_ahead_L200, hV.1]
    refine Tr_if (fun c => hend (by omega)) (fun c => ?_)
    have hT := hV.2.2 i (by omega) (by omega)
    refine Tr_t rfl ?_
    rw [F_142_0, A_143, gd_in (by omega) (by omega), hT.1]
    refine Tr_bq (M_isDigit V (T i)) ?_
    by_cases cl : dgt (T i)
    · rw [if_pos cl]
      refine Tr_f (by decide) ?_
      rw [if_pos ⟨by omega, cl.1, cl.2⟩] at hb
      unfold b_M_ahead_J239
      have hst := fSt_s (a := a) (mx := 4) (c := i - a) hj hf
      rw [show a + (i - a) = i by omega] at hst
      refine hst _ _ (fun U u1 u2 u3 => ?_)
      have gU : frA V0 U := frA_tr fV u1
      have hlt' : ∀ j, a ≤ j → j < i + 1 → dgt (T j) := fun j j0 j1 => by
        by_cases z : j = i
        · rw [z]; exact cl
        · exact hlt j j0 (by omega)
      have fin : ∀ W : ASt, frA U W → (∀ j, j ≠ 6 → W 142 j = U 142 j) → (i + 1 - a ≤ 4 → W 142 6 = nd (sbl T (i + 1 - a).toNat a) 0) → Tr (b_M_ahead_L200 S0 142 0 1 4 m W (w32 (i + 1)) (w32 (i - a + 1))) (fun _ U => frA V0 U ∧ U 142 3 = 2 ∧ U 142 4 = a ∧ U 142 5 = b ∧ (b - a ≤ 4 → U 142 6 = nd (sbl T (b - a).toNat a) 0) ∧ fSt jn a 4 (b - a) U) := by
        intro W w1 w2 w3
        rw [w32_id (x := i + 1) (by omega) (by omega), w32_id (x := i - a + 1) (by omega) (by omega), show i - a + 1 = i + 1 - a by omega]
        refine ih s' (i + 1) W (by omega) (by omega) (by omega) (by omega) hb (frA_tr gU w1) ?_ ?_ hlt' w3 ?_
        · rw [w2 3 (by decide), u2 3 (by decide) (by decide)]; exact v3
        · rw [w2 4 (by decide), u2 4 (by decide) (by decide)]; exact v4
        · rw [show i + 1 - a = i - a + 1 by omega]
          exact fSt_k u3 (w2 8 (by decide)) (w2 9 (by decide))
      unfold b_M_ahead_J252
      refine Tr_if (fun d => ?_) (fun d => ?_)
      · unfold b_M_ahead_J282
        refine Tr_t d ?_
        exact fin U (frA_rfl U) (fun _ _ => rfl) (fun z => by omega)
      · refine Tr_t rfl ?_
        have hU := LX_A hX gU
        have hT' := hU.2.2 i (by omega) (by omega)
        have hw' := hw (by omega)
        have hb7 := nd_b (sbl T (i - a).toNat a) 0 (by omega) (fun c hc => by
          obtain ⟨j, j1, j2, j3⟩ := sbl_mem T _ _ _ hc
          have := hlt j j1 (by omega)
          rw [j3]; exact this)
        have hl := sbl_len T (i - a).toNat a
        rw [hl] at hb7
        have hle : nd (sbl T (i - a).toNat a) 0 ≤ 999 := by
          have : i - a = 0 ∨ i - a = 1 ∨ i - a = 2 ∨ i - a = 3 := by omega
          rcases this with z | z | z | z
          · have := hb7.2.1 (by omega); omega
          · have := hb7.2.2.1 (by omega); omega
          · have := hb7.2.2.2.1 (by omega); omega
          · have := hb7.2.2.2.2.1 (by omega); omega
        unfold b_M_ahead_J282
        refine Tr_f d (Tr_f (by decide) ?_)
        rw [F_142_0, A_143, gd_in (by omega) (by omega), hT'.1, u2 6 (by decide) (by decide), hw', w32_id (x := 10 * nd (sbl T (i - a).toNat a) 0) (by omega) (by omega), w32_id (x := 10 * nd (sbl T (i - a).toNat a) 0 + T i) (by omega) (by omega), w32_id (by omega) (by omega)]
        refine Tr_set (fun V4 e4 n4 => ?_)
        refine fin V4 (frA_set (by decide) e4 n4) (fun j hj' => by rw [e4, upI_n _ _ hj']) (fun z => ?_)
        rw [e4, upI_s, show (i + 1 - a).toNat = (i - a).toNat + 1 by omega, sbl_s, nd_s, show a + ((i - a).toNat : Int) = i by omega]
    · rw [if_neg cl]
      exact Tr_t rfl (hend (fun z => cl z.2))
theorem pA_r {T : Int → Int} {n e : Int} (h0 : 0 ≤ e) (h1 : e ≤ n) : e ≤ pA T n e ∧ pA T n e ≤ n := ⟨(skp_r T n 2000 e).1, (skp_r T n 2000 e).2 h1⟩
/-- of a run's letters a name is made -/
theorem wE_n {T : Int → Int} {n a : Int} (h0 : 0 ≤ a) (h1 : a < n) (hl : ltr (T a)) : a < wE T n a ∧ wE T n a ≤ n ∧ (wE T n a - a ≤ 6 → nmL (sbl T (wE T n a - a).toNat a)) := by
  have hr := rnE_r T n 97 122 2000 a
  have e : wE T n a = rnE T n 97 122 1999 (a + 1) := by
    unfold wE
    rw [show (2000 : Nat) = 1999 + 1 from rfl, rnE, if_pos ⟨h1, hl.1, hl.2⟩]
  have h2 := (rnE_r T n 97 122 1999 (a + 1)).1
  refine ⟨by omega, hr.2 (by omega), fun h6 => ⟨?_, ?_, fun c hc => ?_⟩⟩
  · rw [sbl_len]; omega
  · rw [sbl_len]; omega
  · obtain ⟨j, j1, j2, j3⟩ := sbl_mem T _ _ _ hc
    rw [j3]
    exact (rnE_in T n 97 122 2000 a j j1 (by unfold wE at *; omega)).2
theorem dE_n {T : Int → Int} {n a : Int} (h0 : 0 ≤ a) (h1 : a < n) (hl : dgt (T a)) : a < dE T n a ∧ dE T n a ≤ n ∧ (dE T n a - a ≤ 4 → 0 ≤ nd (sbl T (dE T n a - a).toNat a) 0 ∧ nd (sbl T (dE T n a - a).toNat a) 0 ≤ 9999) := by
  have hr := rnE_r T n 48 57 2000 a
  have e : dE T n a = rnE T n 48 57 1999 (a + 1) := by
    unfold dE
    rw [show (2000 : Nat) = 1999 + 1 from rfl, rnE, if_pos ⟨h1, hl.1, hl.2⟩]
  have h2 := (rnE_r T n 48 57 1999 (a + 1)).1
  refine ⟨by omega, hr.2 (by omega), fun h6 => ?_⟩
  have hb := nd_b (sbl T (dE T n a - a).toNat a) 0 (by omega) (fun c hc => by
    obtain ⟨j, j1, j2, j3⟩ := sbl_mem T _ _ _ hc
    rw [j3]
    exact (rnE_in T n 48 57 2000 a j j1 (by unfold dE at *; omega)).2)
  rw [sbl_len] at hb
  refine ⟨hb.1, ?_⟩
  have : dE T n a - a = 1 ∨ dE T n a - a = 2 ∨ dE T n a - a = 3 ∨ dE T n a - a = 4 := by omega
  rcases this with z | z | z | z
  · have := hb.2.2.1 (by omega); omega
  · have := hb.2.2.2.1 (by omega); omega
  · have := hb.2.2.2.2.1 (by omega); omega
  · have := hb.2.2.2.2.2 (by omega); omega
theorem M_ahead {T : Int → Int} {n e : Int} {V : ASt} (hX : LX T n V) (h5 : V 142 5 = e) (h8 : V 142 8 = 0) (he : 0 ≤ e ∧ e ≤ n) : Tr (f_M_ahead S0 V 142) (fun _ U => frA V U ∧ rTk T n e U) := by
  have hn := hX.2.1
  have ha := pA_r (T := T) he.1 he.2
  have eP : pA T n e = skp T n 2000 e := rfl
  unfold f_M_ahead
  rw [gd_t O_142, h5]
  have main : Tr (b_M_ahead_J41 S0 V 142 (pA T n e)) (fun _ U => frA V U ∧ rTk T n e U) := by
    generalize ea : pA T n e = a at *
    have wT : tkT T n e = (if n ≤ a then 0 else if ltr (T a) ∨ dgt (T a) then (if jnd T a then 1 else if ltr (T a) then (if 6 < wE T n a - a then 1 else ownT (sbl T (wE T n a - a).toNat a)) else if 4 < dE T n a - a then 1 else 3) else if sgn (T a) then T a else 1) := by unfold tkT; rw [ea]
    have wH : tkH T n e = (if n ≤ a then 0 else if ltr (T a) ∨ dgt (T a) then (if jnd T a then 1 else if ltr (T a) then (if 6 < wE T n a - a then 1 else 0) else if 4 < dE T n a - a then 1 else 0) else 0) := by unfold tkH; rw [ea]
    have wP : tkP T n e = (if n ≤ a then a else if ltr (T a) ∨ dgt (T a) then (if jnd T a then a else if ltr (T a) then (if 6 < wE T n a - a then a + 6 else a) else if 4 < dE T n a - a then a + 4 else a) else a) := by unfold tkP; rw [ea]
    have wEe : tkE T n e = (if n ≤ a then a else if ltr (T a) then wE T n a else if dgt (T a) then dE T n a else a + 1) := by unfold tkE; rw [ea]
    have wN : tkN T n e = sbl T (wE T n a - a).toNat a := by unfold tkN; rw [ea]
    have wV' : tkV T n e = nd (sbl T (dE T n a - a).toNat a) 0 := by unfold tkV; rw [ea]
    unfold b_M_ahead_J41
    refine Tr_set (fun V1 e1 n1 => ?_)
    refine Tr_set (fun V2 e2 n2 => ?_)
    refine Tr_set (fun V3 e3 n3 => ?_)
    have f3 : frA V V3 := frA_tr (frA_set (by decide) e1 n1) (frA_tr (frA_set (by decide) e2 n2) (frA_set (by decide) e3 n3))
    have m3 : V3 142 = upI (upI (upI (V 142) 4 a) 5 a) 3 0 := by rw [e3, e2, e1]
    have x3 := LX_A hX f3
    have v8 : V3 142 8 = 0 := by rw [m3, upI_n _ _ (by decide), upI_n _ _ (by decide), upI_n _ _ (by decide)]; exact h8
    rw [x3.1]
    refine Tr_if (fun c => ?_) (fun c => ?_)
    case refine_2 =>
      refine Tr_ret ⟨f3, Or.inr ⟨by rw [wH, if_pos (by omega)], v8, ?_, ?_, Or.inl ⟨by rw [wT, if_pos (by omega)], ?_⟩⟩⟩
      · rw [wP, if_pos (by omega), m3, upI_n _ _ (by decide), upI_n _ _ (by decide), upI_s]
      · rw [wEe, if_pos (by omega), m3, upI_n _ _ (by decide), upI_s]
      · rw [m3, upI_s]
    have hT := x3.2.2 a (by omega) c
    rw [if_neg (show ¬ (n ≤ a) by omega)] at wT wH wP wEe
    rw [F_142_0, A_143, gd_in (by omega) (by omega), hT.1]
    refine Tr_bq (M_isLetter V3 (T a)) ?_
    rw [hT.1]
    refine Tr_bq (M_isDigit V3 (T a)) ?_
    -- behind the fault that a joined token makes
    have h131 : ∀ (W : ASt), frA V3 W → (∀ j, j ≠ 8 → j ≠ 9 → W 142 j = V3 142 j) → (ltr (T a) ∨ dgt (T a)) → fSt (jnd T a) a 0 0 W → Tr (b_M_ahead_J131 S0 W 142 a (if ltr (T a) then 1 else 0) (if dgt (T a) then 1 else 0)) (fun _ U => frA V U ∧ rTk T n e U) := by
      intro W w1 w2 hor wf
      unfold b_M_ahead_J131
      refine Tr_set (fun W1 a1 c1 => ?_)
      refine Tr_set (fun W2 a2 c2 => ?_)
      refine Tr_set (fun W3 a3 c3 => ?_)
      rw [w32_id (x := a + 1) (by omega) (by omega)]
      refine Tr_set (fun W4 a4 c4 => ?_)
      have g4 : frA W W4 := frA_tr (frA_set (by decide) a1 c1) (frA_tr (frA_set (by decide) a2 c2) (frA_tr (frA_set (by decide) a3 c3) (frA_set (by decide) a4 c4)))
      have q4 : W4 142 = upI (upI (upI (upI (W 142) 6 0) 7 0) 3 3) 5 (a + 1) := by rw [a4, a3, a2, a1]
      have gV : frA V W4 := frA_tr f3 (frA_tr w1 g4)
      have p4 : W4 142 4 = a := by rw [q4, upI_n _ _ (by decide), upI_n _ _ (by decide), upI_n _ _ (by decide), upI_n _ _ (by decide), w2 4 (by decide) (by decide), m3, upI_n _ _ (by decide), upI_n _ _ (by decide), upI_s]
      have p6 : W4 142 6 = 0 := by rw [q4, upI_n _ _ (by decide), upI_n _ _ (by decide), upI_n _ _ (by decide), upI_s]
      have p7 : W4 142 7 = 0 := by rw [q4, upI_n _ _ (by decide), upI_n _ _ (by decide), upI_s]
      have p8 : W4 142 8 = W 142 8 := by rw [q4, upI_n _ _ (by decide), upI_n _ _ (by decide), upI_n _ _ (by decide), upI_n _ _ (by decide)]
      have p9 : W4 142 9 = W 142 9 := by rw [q4, upI_n _ _ (by decide), upI_n _ _ (by decide), upI_n _ _ (by decide), upI_n _ _ (by decide)]
      have wf4 : ∀ mx, 0 ≤ mx → fSt (jnd T a) a mx (a - a) W4 := fun mx hm => ⟨fun j => by rw [p8, p9]; exact wf.1 j, fun _ z => by omega, fun j _ => by rw [p8]; exact wf.2.2 j (by omega)⟩
      by_cases cl : ltr (T a)
      · have hnd : ¬ dgt (T a) := by omega
        rw [if_pos cl, if_neg hnd]
        refine Tr_f (by decide) ?_
        unfold b_M_ahead_J172
        refine Tr_f (by decide) ?_
        unfold b_M_ahead_J182
        rw [gd_t O_142]
        refine Tr_set (fun W5 a5 c5 => ?_)
        refine Tr_f (by decide) ?_
        have hwe := wE_n (by omega) c cl
        have := ah_let (jn := jnd T a) (b := wE T n a) hX (show 0 ≤ a by omega) (Classical.em _) FU 2000 a W5 (by omega) (by omega) (by rw [FU_v]; omega) (by omega) rfl (frA_tr gV (frA_set (by decide) a5 c5)) (by rw [a5, upI_s]) (by rw [a5, upI_n _ _ (by decide)]; exact p4) (by rw [a5, upI_n _ _ (by decide)]; exact p6) (fun j j0 j1 => by omega) (fun _ => by rw [show (a - a).toNat = 0 by omega, a5, upI_n _ _ (by decide), p7]; rfl) (fSt_k (wf4 6 (by omega)) (by rw [a5, upI_n _ _ (by decide)]) (by rw [a5, upI_n _ _ (by decide)]))
        rw [show a - a = 0 by omega] at this
        refine Tr_mono this ?_
        rintro r U ⟨u1, u2, u3, u4, u5, u6, u7⟩
        refine ⟨u1, ?_⟩
        rw [if_pos hor, if_pos cl] at wT wH
        rw [if_pos hor, if_pos cl] at wP
        rw [if_pos cl] at wEe
        by_cases z : jnd T a
        · rw [if_pos z] at wT wH wP
          exact Or.inl ⟨wH, (u7.1 z).1, by rw [wP]; exact (u7.1 z).2⟩
        · rw [if_neg z] at wT wH wP
          by_cases y : 6 < wE T n a - a
          · rw [if_pos y] at wT wH wP
            exact Or.inl ⟨wH, (u7.2.1 z y).1, by rw [wP]; exact (u7.2.1 z y).2⟩
          · rw [if_neg y] at wT wH wP
            have hnm := hwe.2.2 (by omega)
            refine Or.inr ⟨wH, u7.2.2 z y, by rw [wP]; exact u3, by rw [wEe]; exact u4, Or.inr (Or.inl ⟨?_, u2, u5, ?_, ?_, ?_⟩)⟩
            · rw [wT]
              rcases ownT_r (sbl T (wE T n a - a).toNat a) with q | q
              · exact Or.inl q
              · exact Or.inr q.1
            · rw [wN]; exact u6 (by omega)
            · rw [wN]; exact hnm
            · rw [wN]; exact wT
      · have hdd : dgt (T a) := hor.resolve_left cl
        rw [if_neg cl, if_pos hdd]
        refine Tr_t rfl (Tr_f (by decide) ?_)
        unfold b_M_ahead_J172
        refine Tr_t rfl ?_
        unfold b_M_ahead_J182
        rw [gd_t O_142]
        refine Tr_set (fun W5 a5 c5 => ?_)
        refine Tr_t rfl ?_
        have hwe := dE_n (by omega) c hdd
        have := ah_dig (jn := jnd T a) (b := dE T n a) hX (show 0 ≤ a by omega) (Classical.em _) FU 2000 a W5 (by omega) (by omega) (by rw [FU_v]; omega) (by omega) rfl (frA_tr gV (frA_set (by decide) a5 c5)) (by rw [a5, upI_s]) (by rw [a5, upI_n _ _ (by decide)]; exact p4) (fun j j0 j1 => by omega) (fun _ => by rw [show (a - a).toNat = 0 by omega, a5, upI_n _ _ (by decide), p6]; rfl) (fSt_k (wf4 4 (by omega)) (by rw [a5, upI_n _ _ (by decide)]) (by rw [a5, upI_n _ _ (by decide)]))
        rw [show a - a = 0 by omega] at this
        refine Tr_mono this ?_
        rintro r U ⟨u1, u2, u3, u4, u5, u7⟩
        refine ⟨u1, ?_⟩
        rw [if_pos hor, if_neg cl] at wT wH
        rw [if_pos hor, if_neg cl] at wP
        rw [if_neg cl, if_pos hdd] at wEe
        by_cases z : jnd T a
        · rw [if_pos z] at wT wH wP
          exact Or.inl ⟨wH, (u7.1 z).1, by rw [wP]; exact (u7.1 z).2⟩
        · rw [if_neg z] at wT wH wP
          by_cases y : 4 < dE T n a - a
          · rw [if_pos y] at wT wH wP
            exact Or.inl ⟨wH, (u7.2.1 z y).1, by rw [wP]; exact (u7.2.1 z y).2⟩
          · rw [if_neg y] at wT wH wP
            have hnm := hwe.2.2 (by omega)
            refine Or.inr ⟨wH, u7.2.2 z y, by rw [wP]; exact u3, by rw [wEe]; exact u4, Or.inr (Or.inr (Or.inl ⟨wT, u2, ?_, ?_, ?_⟩))⟩
            · rw [wV']; exact u5 (by omega)
            · rw [wV']; exact hnm.1
            · rw [wV']; exact hnm.2
    have h93 : (ltr (T a) ∨ dgt (T a)) → Tr (b_M_ahead_J93 S0 V3 142 a (if ltr (T a) then 1 else 0) (if dgt (T a) then 1 else 0)) (fun _ U => frA V U ∧ rTk T n e U) := by
      intro hor
      have hno : ¬ jnd T a → Tr (b_M_ahead_J131 S0 V3 142 a (if ltr (T a) then 1 else 0) (if dgt (T a) then 1 else 0)) (fun _ U => frA V U ∧ rTk T n e U) := fun z => h131 V3 (frA_rfl V3) (fun _ _ _ => rfl) hor ⟨fun j => absurd j z, fun _ j => absurd j (by omega), fun _ _ => v8⟩
      have hyes : jnd T a → Tr (b_M_ahead_J125 S0 V3 142 a (if ltr (T a) then 1 else 0) (if dgt (T a) then 1 else 0)) (fun _ U => frA V U ∧ rTk T n e U) := by
        intro z
        unfold b_M_ahead_J125
        refine Tr_bnd (M_blame V3 1 a) ?_
        rintro _ W ⟨w1, w2, w3, w4⟩
        exact h131 W w1 w2 hor ⟨fun _ => w3 (by omega), fun j => absurd z j, fun j => absurd z j⟩
      unfold b_M_ahead_J93
      refine Tr_if (fun d => hno (fun z => by have := z.1; omega)) (fun d => ?_)
      have hT' := x3.2.2 (a - 1) (by omega) (by omega)
      rw [w32_id (x := a - 1) (by omega) (by omega), F_142_0, A_143, gd_in (by omega) (by omega), hT'.1]
      refine Tr_bq (M_isLetter V3 (T (a - 1))) ?_
      by_cases q : ltr (T (a - 1))
      · rw [if_pos q]
        exact Tr_f (by decide) (hyes ⟨by omega, Or.inl q⟩)
      · rw [if_neg q]
        refine Tr_t rfl ?_
        rw [hT'.1]
        refine Tr_bq (M_isDigit V3 (T (a - 1))) ?_
        by_cases q2 : dgt (T (a - 1))
        · rw [if_pos q2]
          exact Tr_f (by decide) (hyes ⟨by omega, Or.inr q2⟩)
        · rw [if_neg q2]
          exact Tr_t rfl (hno (fun z => z.2.elim q q2))
    by_cases cl : ltr (T a)
    · have := h93 (Or.inl cl)
      rw [if_pos cl] at this ⊢
      exact Tr_f (by decide) this
    · by_cases cd : dgt (T a)
      · have := h93 (Or.inr cd)
        rw [if_neg cl, if_pos cd] at this ⊢
        exact Tr_t rfl (Tr_f (by decide) this)
      · rw [if_neg cl, if_neg cd]
        refine Tr_t rfl (Tr_t rfl ?_)
        unfold b_M_ahead_J131
        refine Tr_set (fun W1 a1 c1 => ?_)
        refine Tr_set (fun W2 a2 c2 => ?_)
        refine Tr_set (fun W3 a3 c3 => ?_)
        rw [w32_id (x := a + 1) (by omega) (by omega)]
        refine Tr_set (fun W4 a4 c4 => ?_)
        refine Tr_t rfl (Tr_t rfl ?_)
        have g4 : frA V3 W4 := frA_tr (frA_set (by decide) a1 c1) (frA_tr (frA_set (by decide) a2 c2) (frA_tr (frA_set (by decide) a3 c3) (frA_set (by decide) a4 c4)))
        have q4 : W4 142 = upI (upI (upI (upI (V3 142) 6 0) 7 0) 3 3) 5 (a + 1) := by rw [a4, a3, a2, a1]
        have hT4 := (LX_A x3 g4).2.2 a (by omega) c
        rw [F_142_0, A_143, gd_in (by omega) (by omega), hT4.1]
        refine Tr_set (fun W5 a5 c5 => ?_)
        have q5 : W5 142 = upI (upI (upI (upI (upI (V3 142) 6 0) 7 0) 3 3) 5 (a + 1)) 6 (T a) := by rw [a5, q4]
        have hor : ¬ (ltr (T a) ∨ dgt (T a)) := fun z => z.elim cl cd
        rw [if_neg hor] at wT wH wP
        rw [if_neg cl, if_neg cd] at wEe
        have r4 : W5 142 4 = a := by rw [q5, upI_n _ _ (by decide), upI_n _ _ (by decide), upI_n _ _ (by decide), upI_n _ _ (by decide), upI_n _ _ (by decide), m3, upI_n _ _ (by decide), upI_n _ _ (by decide), upI_s]
        have r5 : W5 142 5 = a + 1 := by rw [q5, upI_n _ _ (by decide), upI_s]
        have r3 : W5 142 3 = 3 := by rw [q5, upI_n _ _ (by decide), upI_n _ _ (by decide), upI_s]
        have r6 : W5 142 6 = T a := by rw [q5, upI_s]
        have r8 : W5 142 8 = 0 := by rw [q5, upI_n _ _ (by decide), upI_n _ _ (by decide), upI_n _ _ (by decide), upI_n _ _ (by decide), upI_n _ _ (by decide)]; exact v8
        refine Tr_ret ⟨frA_tr f3 (frA_tr g4 (frA_set (by decide) a5 c5)), Or.inr ⟨wH, r8, by rw [wP]; exact r4, by rw [wEe]; exact r5, ?_⟩⟩
        by_cases q : sgn (T a)
        · rw [if_pos q] at wT
          exact Or.inr (Or.inr (Or.inr (Or.inl ⟨by rw [wT]; exact q, r3, by rw [wT]; exact r6⟩)))
        · rw [if_neg q] at wT
          exact Or.inr (Or.inr (Or.inr (Or.inr ⟨wT, r3, by rw [r6]; exact q⟩)))
  have hl : ∀ (m s : Nat) (i : Int), 0 ≤ i → i ≤ n → n - i < m → n - i < s → skp T n s i = pA T n e → Tr (b_M_ahead_L5 S0 142 m V i) (fun _ U => frA V U ∧ rTk T n e U) := by
    intro m
    induction m with
    | zero => intro s i h1 h2 h3; omega
    | succ m ih =>
      intro s i i0 i1 hm hs hsk
      obtain ⟨s', es⟩ : ∃ s', s = s' + 1 := ⟨s - 1, by omega⟩
      subst es
      rw [skp] at hsk
      rw [b_M_ahead_L5, hX.1]
      refine Tr_if (fun c => ?_) (fun c => ?_)
      · rw [if_neg (by omega)] at hsk
        rw [hsk]; exact main
      have hT := hX.2.2 i i0 (by omega)
      rw [F_142_0, A_143, gd_in (by omega) (by omega), hT.1, w32_id (x := i + 1) (by omega) (by omega)]
      refine Tr_if (fun d => ?_) (fun d => ?_)
      · rw [if_pos ⟨by omega, Or.inl d⟩] at hsk
        exact ih s' (i + 1) (by omega) (by omega) (by omega) (by omega) hsk
      refine Tr_if (fun d2 => ?_) (fun d2 => ?_)
      · rw [if_pos ⟨by omega, Or.inr d2⟩] at hsk
        exact ih s' (i + 1) (by omega) (by omega) (by omega) (by omega) hsk
      · rw [if_neg (fun z => z.2.elim d d2)] at hsk
        rw [hsk]; exact main
  exact hl FU 2000 e he.1 he.2 (by rw [FU_v]; omega) (by omega) rfl
