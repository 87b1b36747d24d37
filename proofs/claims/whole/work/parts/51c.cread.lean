/-! has -/
theorem pre_one {h : Int → Int} {j a : Int} : ∀ n : Nat, 0 ≤ j → j < n → pre (fun i => if i = j then a else h i) n = pre h n - h j + a := by
  intro n
  induction n with
  | zero => intro h1 h2; omega
  | succ n ih =>
    intro h1 h2
    rw [pre, pre]
    by_cases c : (n : Int) = j
    · rw [if_pos c]
      have : ∀ k : Nat, (k : Int) ≤ j → pre (fun i => if i = j then a else h i) k = pre h k := by
        intro k
        induction k with
        | zero => intro _; rfl
        | succ k ihk => intro hk; rw [pre, pre, ihk (by omega), if_neg (by omega)]
      rw [this n (by omega), c]; omega
    · rw [if_neg c, ih h1 (by omega)]; omega
theorem pre_ext {f g : Int → Int} : ∀ n : Nat, (∀ i : Int, 0 ≤ i → i < n → f i = g i) → pre f n = pre g n := by
  intro n
  induction n with
  | zero => intro _; rfl
  | succ n ih => intro h; rw [pre, pre, ih (fun i a b => h i a (by omega)), h n (by omega) (by omega)]
theorem pre_perm {f : Int → Int} : ∀ (n : Nat) (g : Int → Int), (∀ i : Int, 0 ≤ i → i < n → 0 ≤ g i ∧ g i < n) → (∀ i j : Int, 0 ≤ i → i < n → 0 ≤ j → j < n → g i = g j → i = j) → pre (fun i => f (g i)) n = pre f n := by
  intro n
  induction n with
  | zero => intro g _ _; rfl
  | succ n ih =>
    intro g hr hi
    have hsur : ∃ j, 0 ≤ j ∧ j < ((n + 1 : Nat) : Int) ∧ g j = n := by
      refine Classical.byContradiction fun hno => ?_
      have := pigeonX (m := ((n + 1 : Nat) : Int)) (n := ((n + 1 : Nat) : Int)) (p := n) (f := g) (by omega) (by omega) (fun i a b => hr i a b) hi (fun i a b e => hno ⟨i, a, b, e⟩)
      omega
    obtain ⟨j, j0, j1, j2⟩ := hsur
    have hn := hr n (by omega) (by omega)
    by_cases c : j = n
    · have hI := ih g (fun i a b => by
        have h1 := hr i a (by omega)
        have h2 : g i ≠ n := fun e => by have := hi i j a (by omega) j0 j1 (by rw [e, j2]); omega
        omega) (fun i k a b a' b' e => hi i k a (by omega) a' (by omega) e)
      rw [pre, pre, hI, ← c, j2, c]
    · have hg : g n ≠ n := fun e => c (hi j n j0 j1 (by omega) (by omega) (by rw [j2, e]))
      have hI := ih (fun i => if i = j then g n else g i) (fun i a b => ?_) (fun i k a b a' b' e => ?_)
      · have e1 : pre (fun i => f (if i = j then g n else g i)) n = pre (fun i => if i = j then f (g n) else f (g i)) n := pre_ext n (fun i _ _ => by
          by_cases z : i = j
          · rw [if_pos z, if_pos z]
          · rw [if_neg z, if_neg z])
        rw [e1, pre_one n j0 (by omega), j2] at hI
        rw [pre, pre]
        omega
      · by_cases z : i = j
        · rw [if_pos z]; omega
        · rw [if_neg z]
          have h1 := hr i a (by omega)
          have h2 : g i ≠ n := fun e => z (hi i j a (by omega) j0 j1 (by rw [e, j2]))
          omega
      · by_cases z : i = j
        · by_cases z' : k = j
          · omega
          · rw [if_pos z, if_neg z'] at e
            have := hi n k (by omega) (by omega) a' (by omega) e
            omega
        · by_cases z' : k = j
          · rw [if_neg z, if_pos z'] at e
            have := hi i n a (by omega) (by omega) (by omega) e
            omega
          · rw [if_neg z, if_neg z'] at e
            exact hi i k a (by omega) a' (by omega) e
theorem nX_pre (s : SL) : ∀ n, nX s n = pre (sX s) n := by
  intro n
  induction n with
  | zero => rfl
  | succ n ih => rw [nX, pre, ih]
theorem S_countStruck {G : GM} {s : SL} {a : Int} {V : ASt} (hG : GOK G) (hs : SOK G s) (ha : isSl a) (h : dS G s a V) : f_Slate_countStruck S0 V a = some (nX s (qR G).toNat, V) := by
  have hR := hG.2.2.1
  have hperm : pre (fun i => sX s (sA s i)) (qR G).toNat = nX s (qR G).toNat := by
    rw [nX_pre]
    exact pre_perm (f := sX s) (qR G).toNat (sA s) (fun i a b => by have := hs.1 i a (by omega); omega) (fun i j a b a' b' e => hs.2.1 i j a (by omega) a' (by omega) e)
  have hl : ∀ (n k : Nat), (k : Int) ≤ qR G → qR G - k < n → b_Slate_countStruck_L4 S0 a n V (pre (fun i => sX s (sA s i)) k) k = some (nX s (qR G).toNat, V) := by
    intro n
    induction n with
    | zero => intro k h1 h2; omega
    | succ n ih =>
      intro k hk hn
      rw [b_Slate_countStruck_L4, h.1]
      by_cases c : qR G ≤ (k : Int)
      · rw [if_pos c, ← hperm, show (qR G).toNat = k by omega]
      · have ra := hs.1 k (by omega) (by omega)
        have h3 := (hs.2.2 _ ra.1 ra.2).1
        have hb : ∀ k : Nat, (k : Int) ≤ qR G → 0 ≤ pre (fun i => sX s (sA s i)) k ∧ pre (fun i => sX s (sA s i)) k ≤ k := by
          intro k
          induction k with
          | zero => intro _; exact ⟨Int.le_refl _, Int.le_refl _⟩
          | succ k ihk =>
            intro hk
            have := ihk (by omega)
            have rk := hs.1 k (by omega) (by omega)
            have := (hs.2.2 _ rk.1 rk.2).1
            rw [pre]; omega
        have h4 := hb k (by omega)
        have ihk := ih (k + 1) (by omega) (by omega)
        rw [pre, show ((k + 1 : Nat) : Int) = (k : Int) + 1 by omega] at ihk
        rw [if_neg c, S_isStruck hG hs ha h (by omega) (by omega), bnd_e, w32_id (x := (k : Int) + 1) (by omega) (by omega)]
        rcases h3 with e | e
        · rw [if_pos e, w32_id (by omega) (by omega)]
          rw [e] at ihk; exact ihk
        · rw [if_neg (by omega), w32_id (by omega) (by omega)]
          rw [e] at ihk; exact ihk
  unfold f_Slate_countStruck
  rw [gd_t (OS ha)]
  exact hl FU 0 (by omega) (by rw [FU_v]; omega)
theorem D_has {x : ST} {t : Int} {V : ASt} (hG : GOK (xG x)) (hs : SOK (xG x) (xS x)) (h : dIt x t V) (w : Int) : f_SG_has S0 V 0 w = some (sHas x w, V) := by
  obtain ⟨h0, h1, h2, h3, h4, h5, h6, h7, h8, h9, h10, h11, h12, h13, h14⟩ := h
  have ha : isSl 41 := Or.inl rfl
  unfold f_SG_has sHas
  rw [gd_t O_0, h1.1, gd_t (OG h0), gd_t (OG h0), gd_t (OG h0), gd_t (OG h0), gd_t (OG h0), h2.1.1, h2.1.2.1, h2.1.2.2.1, h2.1.2.2.2.1, h2.2.1.1, F_0_4, gd_t O_41, S_countStruck hG hs ha h4, bnd_e, F_0_6, gd_t O_47, h9.1, h1.2.2]
  by_cases c0 : w = 0
  · rw [if_pos c0, if_pos c0]
  rw [if_neg c0, if_neg c0]
  by_cases c1 : w = 1
  · rw [if_pos c1, if_pos c1]
  rw [if_neg c1, if_neg c1]
  by_cases c2 : w = 2
  · rw [if_pos c2, if_pos c2]
  rw [if_neg c2, if_neg c2]
  by_cases c3 : w = 3
  · rw [if_pos c3, if_pos c3]
  rw [if_neg c3, if_neg c3]
  by_cases c4 : w = 4
  · rw [if_pos c4, if_pos c4]
  rw [if_neg c4, if_neg c4]
  by_cases c5 : w = 5
  · rw [if_pos c5, if_pos c5]
  rw [if_neg c5, if_neg c5]
  by_cases c6 : w = 6
  · rw [if_pos c6, if_pos c6]
  rw [if_neg c6, if_neg c6]
  by_cases c7 : w = 7
  · rw [if_pos c7, if_pos c7]
  rw [if_neg c7, if_neg c7]
theorem D_rule {x : ST} {t : Int} {V : ASt} (hG : GOK (xG x)) (hs : SOK (xG x) (xS x)) (h : dIt x t V) (p w : Int) : f_SG_rule S0 V 0 p w = some (sRule x p w, V) := by
  obtain ⟨h0, h1, h2, h3, h4, h5, h6, h7, h8, h9, h10, h11, h12, h13, h14⟩ := h
  have ha : isSl 41 := Or.inl rfl
  have hR := hG.2.2.1
  unfold f_SG_rule sRule
  rw [gd_t O_0, F_0_4, gd_t O_41, S_isPlace ha V p (by rw [h4.1]; omega), bnd_e, h4.1]
  by_cases c : 0 ≤ p ∧ p < qR (xG x)
  · have ra := hs.1 p c.1 c.2
    have kk := hG.2.2.2.2.2.2.1 (sA (xS x) p) ra.1 ra.2
    have ss := hs.2.2 (sA (xS x) p) ra.1 ra.2
    rw [if_pos c, if_neg (by decide), S_ruleAt hG hs ha h4 c.1 c.2, bnd_e, h1.1, S_kindAt hG hs ha h4 h0 h2.1 c.1 c.2, bnd_e, gd_t (OG h0), G_pieceOf hG h0 h2.1 ra.1 ra.2, bnd_e, gd_t (OG h0), G_wayOf hG h0 h2.1 ra.1 ra.2, bnd_e, S_stepAt hG hs ha h4 c.1 c.2, bnd_e, S_isStruck hG hs ha h4 c.1 c.2, bnd_e, gd_t (OG h0), G_isEver hG h0 h2.1 ra.1 ra.2, bnd_e, if_pos c]
    by_cases c0 : w = 0
    · rw [if_pos c0, if_pos c0]
    rw [if_neg c0, if_neg c0]
    by_cases c1 : w = 1
    · rw [if_pos c1, if_pos c1]
    rw [if_neg c1, if_neg c1]
    by_cases c2 : w = 2
    · rw [if_pos c2, if_pos c2]
    rw [if_neg c2, if_neg c2]
    by_cases c3 : w = 3
    · rw [if_pos c3, if_pos c3]
    rw [if_neg c3, if_neg c3]
    by_cases c4 : w = 4
    · rw [if_pos c4, if_pos c4]
    rw [if_neg c4, if_neg c4]
    by_cases c5 : w = 5
    · rw [if_pos c5, if_pos c5]
      rcases ss.1 with e | e <;> rw [e] <;> rfl
    rw [if_neg c5, if_neg c5]
    by_cases c6 : w = 6
    · rw [if_pos c6, if_pos c6]
      rcases kk.1 with e | e <;> rw [e] <;> rfl
    rw [if_neg c6, if_neg c6]
  · rw [if_neg c, if_pos rfl, if_neg c]
/-- the class's cells alone change, but few -/
theorem mv_X {t : Int} {V U : ASt} (ht : isGm t) (h : ∀ a, (a < 50 ∨ 72 < a) → a ≠ t + 4 → a ≠ t + 15 → U a = V a) : frX V U := fun a ha => h a (by omega) (by unfold isGm at ht; omega) (by unfold isGm at ht; omega)
theorem D_lawful {x : ST} {t : Int} {V : ASt} (hG : GOK (xG x)) (hs : SOK (xG x) (xS x)) (h : dIt x t V) (p k : Int) : Tr (f_SG_lawful S0 V 0 p k) (fun r U => r = sLawful x p k ∧ dIt x t U ∧ frX V U) := by
  have hm : isMv 50 := Or.inl rfl
  have hq := qPos_le hG
  have h' := h
  obtain ⟨h0, h1, h2, -⟩ := h
  unfold f_SG_lawful sLawful
  rw [gd_t O_0, h1.1, gd_t (OG h0), G_isPosition h0, bnd_e, h2.2.1.1]
  by_cases c : qF (xG x) ≠ 0 ∧ 0 ≤ p ∧ p < qPos (xG x)
  · rw [if_neg c.1, if_pos (show 0 ≤ p ∧ p < qPos (xG x) from c.2), if_pos c]
    refine Tr_f (by decide) (Tr_bnd (D_movesNow hG hs c.1 h') ?_)
    rintro r U ⟨u1, u2, u3, u4, u5⟩
    have fX : frX V U := mv_X h0 (fun a a1 a2 a3 => u5 a (by omega) a2 a3)
    rw [u1, gd_t (show nn 50 = true by decide), gd_t O_50, M_countOf hm ⟨c.2.1, by omega⟩ (u4 p c.2.1 c.2.2), bnd_e, gd_t O_50, M_codeOf hG hs hm ⟨c.2.1, by omega⟩ (u4 p c.2.1 c.2.2), bnd_e]
    refine Tr_if (fun d => ?_) (fun d => ?_)
    · rw [if_pos d]; exact Tr_ret ⟨rfl, u2, fX⟩
    · rw [if_neg d]; exact Tr_ret ⟨rfl, u2, fX⟩
  · rw [if_neg c]
    refine Tr_t ?_ (Tr_ret ⟨rfl, h', fun _ _ => rfl⟩)
    by_cases cf : qF (xG x) = 0
    · rw [if_pos cf, if_neg (by omega)]
    · rw [if_neg cf, if_neg (fun z => c ⟨cf, z⟩)]
theorem D_winner {x : ST} {t : Int} {V : ASt} (hG : GOK (xG x)) (h : dIt x t V) (hp : 0 ≤ xN x 3 ∧ xN x 3 < qPos (xG x)) (hM : MA (xG x) (xS x) 50 V) : f_Match_winner S0 V 109 50 = some (wnr x, V) := by
  have hm : isMv 50 := Or.inl rfl
  have hq := qPos_le hG
  obtain ⟨h0, h1, h2, h3, h4, h5, h6, h7, h8, h9, h10, h11, h12, h13, h14⟩ := h
  unfold f_Match_winner wnr f_Moves_winnerWhenStuck
  rw [gd_t O_109, h11.1, h11.2.2, gd_t O_50, M_countOf hm ⟨hp.1, by omega⟩ (hM _ hp.1 hp.2), bnd_e, gd_t O_50, h5.1.1, gd_t (OG h0), and32_1, G_winner h0 h2.1 (by omega), bnd_e, bnd_e, h11.1]
  by_cases c : xN x 5 = -1
  · rw [if_pos c, if_neg (fun z : xN x 5 ≠ -1 => z c)]
    by_cases d : nx (xG x) (xS x) (xN x 3) = []
    · rw [if_pos (show ((nx (xG x) (xS x) (xN x 3)).length : Int) = 0 by rw [d]; rfl), if_neg (fun z : nx (xG x) (xS x) (xN x 3) ≠ [] => z d)]
    · rw [if_neg (show ¬ ((nx (xG x) (xS x) (xN x 3)).length : Int) = 0 from fun e => d (List.length_eq_zero_iff.mp (by omega))), if_pos (show nx (xG x) (xS x) (xN x 3) ≠ [] from d)]
  · rw [if_neg c, if_pos (show xN x 5 ≠ -1 from c)]
theorem D_played {x : ST} {t : Int} {V : ASt} (hG : GOK (xG x)) (hs : SOK (xG x) (xS x)) (h : dIt x t V) (hp : 0 ≤ xN x 3 ∧ xN x 3 < qPos (xG x)) (w : Int) : Tr (f_SG_played S0 V 0 w) (fun r U => r = sPlayed x w ∧ dIt x t U ∧ frX V U) := by
  have h' := h
  obtain ⟨h0, h1, h2, h3, h4, h5, h6, h7, h8, h9, h10, h11, h12, h13, h14⟩ := h
  unfold f_SG_played sPlayed
  rw [gd_t O_0, h1.1, gd_t (OG h0), h2.1.1]
  refine Tr_if (fun c => ?_) (fun c => ?_)
  · rw [if_pos c]; exact Tr_ret ⟨rfl, h', fun _ _ => rfl⟩
  rw [if_neg c, F_0_13]
  refine Tr_if (fun d => ?_) (fun d => ?_)
  · rw [if_pos d, gd_t O_109, h11.1]; exact Tr_ret ⟨rfl, h', fun _ _ => rfl⟩
  rw [if_neg d]
  refine Tr_if (fun d => ?_) (fun d => ?_)
  · rw [if_pos d, gd_t O_109, h11.1, and32_1]; exact Tr_ret ⟨rfl, h', fun _ _ => rfl⟩
  rw [if_neg d]
  refine Tr_if (fun d => ?_) (fun d => ?_)
  · rw [if_pos d, gd_t O_109, h11.2.1]; exact Tr_ret ⟨rfl, h', fun _ _ => rfl⟩
  rw [if_neg d]
  refine Tr_if (fun d => ?_) (fun d => ?_)
  · rw [if_pos d]
    refine Tr_bnd (D_movesNow hG hs c h') ?_
    rintro r U ⟨u1, u2, u3, u4, u5⟩
    rw [u1, gd_t O_109]
    exact Tr_bq (D_winner hG u2 hp u4) (Tr_ret ⟨rfl, u2, mv_X h0 (fun a a1 a2 a3 => u5 a (by omega) a2 a3)⟩)
  rw [if_neg d]; exact Tr_ret ⟨rfl, h', fun _ _ => rfl⟩
theorem nx_cl {G : GM} (hG : GOK G) (s : SL) : cl (nx G s) (fun p => 0 ≤ p ∧ p < qPos G) := fun p hp e he e0 => by
  rcases nx_r hG hp.1 he with z | z | z <;> omega
theorem D_value {x : ST} {t : Int} {V : ASt} (hG : GOK (xG x)) (hs : SOK (xG x) (xS x)) (h : dIt x t V) (p w : Int) : Tr (f_SG_value S0 V 0 p w) (fun r U => r = sValue x p w ∧ dIt x t U ∧ frX V U) := by
  have hm : isMv 50 := Or.inl rfl
  have hv : isVl 62 50 63 := Or.inl ⟨rfl, rfl, rfl⟩
  have hq := qPos_le hG
  have h' := h
  obtain ⟨h0, h1, h2, -⟩ := h
  unfold f_SG_value sValue
  rw [gd_t O_0, h1.1, gd_t (OG h0), G_isPosition h0, bnd_e, h2.2.1.1]
  by_cases c : qF (xG x) ≠ 0 ∧ 0 ≤ p ∧ p < qPos (xG x)
  · rw [if_neg c.1, if_pos (show 0 ≤ p ∧ p < qPos (xG x) from c.2), if_pos c]
    refine Tr_f (by decide) (Tr_bnd (D_valuesNow hG hs c.1 h') ?_)
    rintro r U ⟨u1, u2, u3, u4, u5, u6⟩
    have fX : frX V U := mv_X h0 u6
    have hval := vW_e (nx_cl hG (xS x)) u5.1 (p := p) c.2
    have hbm := V_bestMoveD hG hs hv (D := fun p => 0 ≤ p ∧ p < qPos (xG x)) (fun q hq' => ⟨⟨hq'.1, by omega⟩, u4 q hq'.1 hq'.2⟩) (nx_cl hG (xS x)) u5.1 (fun q hq' => u5.2 q hq'.1 hq'.2) (p := p) c.2
    rw [u1, gd_t (show nn 62 = true by decide), gd_t O_62, V_worthOf hv U ⟨c.2.1, by omega⟩, bnd_e, gd_t O_62, V_stepsOf hv U ⟨c.2.1, by omega⟩, bnd_e, gd_t O_62, hbm, bnd_e, F_0_7, gd_t O_50, M_codeOf hG hs hm ⟨c.2.1, by omega⟩ (u4 p c.2.1 c.2.2), bnd_e, hval.1]
    refine Tr_if (fun d => ?_) (fun d => ?_)
    · rw [if_pos d]; exact Tr_ret ⟨rfl, u2, fX⟩
    rw [if_neg d]
    refine Tr_if (fun d => ?_) (fun d => ?_)
    · rw [if_pos d]; exact Tr_ret ⟨by rw [← hval.1]; exact hval.2, u2, fX⟩
    rw [if_neg d]
    refine Tr_if (fun d => ?_) (fun d => ?_)
    · rw [if_pos d]
      refine Tr_ret ⟨?_, u2, fX⟩
      rcases bst_m1 hG (nx_cl hG (xS x)) u5.1 (fun q hq' => hq'.1) (p := p) c.2 with z | z
      · rw [if_neg (show ¬ (0 ≤ bst (xG x) (xS x) p ∧ bst (xG x) (xS x) p < ((nx (xG x) (xS x) p).length : Int)) by omega), if_pos z]
      · rw [if_pos z, if_neg (show ¬ (bst (xG x) (xS x) p = -1) by omega)]
    rw [if_neg d]; exact Tr_ret ⟨rfl, u2, fX⟩
  · rw [if_neg c]
    refine Tr_t ?_ (Tr_ret ⟨rfl, h', fun _ _ => rfl⟩)
    by_cases cf : qF (xG x) = 0
    · rw [if_pos cf, if_neg (by omega)]
    · rw [if_neg cf, if_neg (fun z => c ⟨cf, z⟩)]
theorem D_hat {x : ST} {t : Int} {V : ASt} (hG : GOK (xG x)) (hs : SOK (xG x) (xS x)) (h : dIt x t V) (hp : 0 ≤ xN x 3 ∧ xN x 3 < qPos (xG x)) : Tr (f_SG_hat S0 V 0) (fun r U => r = sHat x ∧ dIt x t U ∧ frX V U) := by
  have hv : isVl 62 50 63 := Or.inl ⟨rfl, rfl, rfl⟩
  have hq := qPos_le hG
  have hU := hG.2.2.2.1
  have h' := h
  obtain ⟨h0, h1, h2, -⟩ := h
  unfold f_SG_hat sHat
  rw [gd_t O_0, h1.1, gd_t (OG h0), h2.1.1]
  refine Tr_if (fun c => ?_) (fun c => ?_)
  · rw [if_pos c]; exact Tr_ret ⟨rfl, h', fun _ _ => rfl⟩
  rw [if_neg c]
  refine Tr_bnd (D_movesNow hG hs c h') ?_
  rintro r U ⟨u1, u2, u3, u4, u5⟩
  have fX : frX V U := mv_X h0 (fun a a1 a2 a3 => u5 a (by omega) a2 a3)
  rw [u1, F_0_13, gd_t O_109]
  refine Tr_bq (D_winner hG u2 hp u4) ?_
  refine Tr_if (fun d => ?_) (fun d => ?_)
  · rw [if_neg (fun z : wnr x ≠ -1 => z d)]
    refine Tr_bnd (D_valuesNow hG hs c u2) ?_
    rintro r2 W ⟨w1, w2, w3, w4, w5, w6⟩
    have e3 : W 109 0 = xN x 3 := by obtain ⟨k0, k1, k2, k3, k4, k5, k6, k7, k8, k9, k10, k11, -⟩ := w2; exact k11.1
    have hval := vW_e (nx_cl hG (xS x)) w5.1 (p := xN x 3) hp
    have hw3 := Sol_w w5.1 (by omega) (p := xN x 3) hp
    have fX2 : frX V W := frX_tr fX (mv_X h0 w6)
    rw [w1, gd_t O_62, e3, V_worthOf hv W ⟨hp.1, by omega⟩, bnd_e, e3, and32_1, w32_id (by omega) (by omega)]
    rw [hval.1] at hw3 ⊢
    refine Tr_if (fun e => ?_) (fun e => ?_)
    · rw [if_neg (by omega), if_neg (by omega)]; exact Tr_ret ⟨rfl, w2, fX2⟩
    refine Tr_if (fun e' => ?_) (fun e' => ?_)
    · rw [if_neg (by omega), if_pos (by omega)]; exact Tr_ret ⟨rfl, w2, fX2⟩
    · rw [if_pos (by omega)]; exact Tr_ret ⟨rfl, w2, fX2⟩
  · rw [if_pos (show wnr x ≠ -1 from d)]
    refine Tr_if (fun e => ?_) (fun e => ?_)
    · rw [if_pos e]; exact Tr_ret ⟨rfl, u2, fX⟩
    · rw [if_neg e]; exact Tr_ret ⟨rfl, u2, fX⟩
