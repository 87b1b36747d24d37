/-! rings of games -/
theorem upI_upI (f : Int → Int) (k a b : Int) : upI (upI f k a) k b = upI f k b := by
  funext j
  by_cases z : j = k
  · rw [z, upI_s, upI_s]
  · rw [upI_n _ _ z, upI_n _ _ z, upI_n _ _ z]
theorem uN_uN (x : ST) (k a b : Int) : uN (uN x k a) k b = uN x k b := by
  unfold uN
  simp only [upI_upI]
theorem uN_id (x : ST) (k : Int) : uN x k (xN x k) = x := by
  unfold uN xN
  rw [upI_id]
noncomputable def rgS (x : ST) : Nat → SL
  | 0 => xS x
  | i + 1 => if cbS (uN (uS x (rgS x i)) 0 (xN x 0 + i)) = -1 then rgS x i else app (rgS x i) (cbS (uN (uS x (rgS x i)) 0 (xN x 0 + i)))
noncomputable def slI (x : ST) (i : Int) : SL := rgS x i.toNat
noncomputable def ryI (x : ST) (i : Int) : ST := uN (uS x (slI x i)) 0 (xN x 0 + i)
theorem slI_0 (x : ST) : slI x 0 = xS x := rfl
theorem slI_s (x : ST) {i : Int} (h : 0 ≤ i) : slI x (i + 1) = if cbS (ryI x i) = -1 then slI x i else app (slI x i) (cbS (ryI x i)) := by
  unfold slI ryI slI
  rw [show (i + 1).toNat = i.toNat + 1 by omega, rgS, show ((i.toNat : Nat) : Int) = i by omega]
theorem ryI_0 (x : ST) : ryI x 0 = x := by
  unfold ryI
  rw [slI_0, Int.add_zero]
  show uN x 0 (xN x 0) = x
  exact uN_id x 0
theorem ryI_n0 (x : ST) (i : Int) : xN (ryI x i) 0 = xN x 0 + i := uN_s _ _ _
theorem ryI_n (x : ST) (i : Int) {k : Int} (h : k ≠ 0) : xN (ryI x i) k = xN x k := uN_n (uS x (slI x i)) _ h
theorem slI_ok {x : ST} (hG : GOK (xG x)) (hs : SOK (xG x) (xS x)) (hn : SNM (xG x) (xS x)) (i : Int) : SOK (xG x) (slI x i) ∧ SNM (xG x) (slI x i) := by
  unfold slI
  generalize i.toNat = m
  induction m with
  | zero => exact ⟨hs, hn⟩
  | succ m ih =>
    rw [rgS]
    by_cases c : cbS (uN (uS x (rgS x m)) 0 (xN x 0 + m)) = -1
    · rw [if_pos c]; exact ih
    · rw [if_neg c]
      have hc : chg (xG x) (rgS x m) (cbS (uN (uS x (rgS x m)) 0 (xN x 0 + m))) = 1 := by
        rcases cbS_ok (uN (uS x (rgS x m)) 0 (xN x 0 + m)) with z | z
        · exact absurd z c
        · exact z
      exact ⟨app_ok hG ih.1 hc, app_nm ih.1 ih.2 hc⟩
def alk (x : ST) (i j : Int) : Prop := slI x i = slI x j ∧ (i - j) % 2 = 0
def RG (x : ST) (n w r : Int) : Prop := (∃ i j, 1 ≤ i ∧ i ≤ n ∧ 0 ≤ j ∧ j < i ∧ alk x i j ∧ (∀ i' j', 1 ≤ i' → i' < i → 0 ≤ j' → j' < i' → ¬ alk x i' j') ∧ r = if w = 0 then i - j else j) ∨ ((∀ i j, 1 ≤ i → i ≤ n → 0 ≤ j → j < i → ¬ alk x i j) ∧ r = -1)
theorem RG_u {x : ST} {n w r r' : Int} (h : RG x n w r) (h' : RG x n w r') : r = r' := by
  rcases h with ⟨i, j, i1, i2, j0, j1, a, m, e⟩ | ⟨m, e⟩
  · rcases h' with ⟨i', j', i1', i2', j0', j1', a', m', e'⟩ | ⟨m', e'⟩
    · have hi : i = i' := by
        by_cases z : i < i'
        · exact absurd a (m' i j i1 z j0 j1)
        · by_cases z2 : i' < i
          · exact absurd a' (m i' j' i1' z2 j0' j1')
          · omega
      subst hi
      have hj : j = j' := by
        by_cases z : j < j'
        · exact absurd (show alk x j' j from ⟨a'.1.symm.trans a.1, by have := a.2; have := a'.2; omega⟩) (m j' j (by omega) j1' j0 z)
        · by_cases z2 : j' < j
          · exact absurd (show alk x j j' from ⟨a.1.symm.trans a'.1, by have := a.2; have := a'.2; omega⟩) (m j j' (by omega) j1 j0' z2)
          · omega
      rw [e, e', hj]
    · exact absurd a (m' i j i1 i2 j0 j1)
  · rcases h' with ⟨i', j', i1', i2', j0', j1', a', m', e'⟩ | ⟨m', e'⟩
    · exact absurd a' (m i' j' i1' i2' j0' j1')
    · rw [e, e']
noncomputable def sRing (x : ST) (n w : Int) : Int := if qF (xG x) = 0 ∨ ¬ (1 ≤ n ∧ n ≤ 12) ∨ ¬ (0 ≤ w ∧ w ≤ 1) then -1 else Classical.epsilon (RG x n w)
theorem RG_e {x : ST} {n w r : Int} (hc : ¬ (qF (xG x) = 0 ∨ ¬ (1 ≤ n ∧ n ≤ 12) ∨ ¬ (0 ≤ w ∧ w ≤ 1))) (h : RG x n w r) : r = sRing x n w := by
  unfold sRing
  rw [if_neg hc]
  exact RG_u h (Classical.epsilon_spec ⟨r, h⟩)
-- ---- the reference
def nt (G : GM) (s : SL) (k : Int) (W : ASt) : Prop := ∀ p, 0 ≤ p → p < qR G → W 189 (12 * k + p) = sA s p ∧ W 190 (12 * k + p) = rst s p
theorem M_notes {G : GM} {s : SL} {b i : Int} {V : ASt} (hG : GOK G) (hs : SOK G s) (g1 : rG G b V) (g4 : rS G s V) (hi : 0 ≤ i ∧ i ≤ 12) : Tr (f_M_notes S0 V 142 i) (fun _ U => (∀ a, a ≠ 189 → a ≠ 190 → U a = V a) ∧ nt G s i U ∧ ∀ j, j < 12 * i ∨ 12 * i + 12 ≤ j → U 189 j = V 189 j ∧ U 190 j = V 190 j) := by
  have hR := hG.2.2.1
  unfold f_M_notes
  rw [gd_t O_142]
  have hl : ∀ (n : Nat) (p : Int) (W : ASt), 0 ≤ p → p ≤ qR G → qR G - p < n → (∀ a, a ≠ 189 → a ≠ 190 → W a = V a) → (∀ q, 0 ≤ q → q < p → W 189 (12 * i + q) = sA s q ∧ W 190 (12 * i + q) = rst s q) → (∀ j, j < 12 * i ∨ 12 * i + 12 ≤ j → W 189 j = V 189 j ∧ W 190 j = V 190 j) →
      Tr (b_M_notes_L2 S0 142 i n W p) (fun _ U => (∀ a, a ≠ 189 → a ≠ 190 → U a = V a) ∧ nt G s i U ∧ ∀ j, j < 12 * i ∨ 12 * i + 12 ≤ j → U 189 j = V 189 j ∧ U 190 j = V 190 j) := by
    intro n
    induction n with
    | zero => intro p W h1 h2 h3; omega
    | succ n ih =>
      intro p W p0 p1 hn fW kW oW
      have gW : rG G b W := rG_fr (fun a a1 a2 => fW a (by omega) (by omega)) g1
      have sW : rS G s W := rS_fr (fun a a1 a2 => fW a (by omega) (by omega)) g4
      rw [b_M_notes_L2]
      refine Tr_bq (M_rulesAll gW) ?_
      refine Tr_if (fun c => ?_) (fun c => ?_)
      · exact Tr_ret ⟨fW, fun q q0 q1 => kW q q0 (by omega), oW⟩
      · have hr := sW p p0 (by omega)
        rw [F_142_44, A_169, gd_in (by omega) (by omega), w32_id (x := 12 * i) (by omega) (by omega), w32_id (x := 12 * i + p) (by omega) (by omega), F_142_70, A_189, gd_in (by omega) (by omega), hr.1]
        refine Tr_set (fun V2 e2 n2 => ?_)
        have g2' : rG G b V2 := rG_fr (fun a a1 a2 => n2 a (by omega)) gW
        have s2' : rS G s V2 := rS_fr (fun a a1 a2 => n2 a (by omega)) sW
        refine Tr_bq (M_restOf hG hs g2' s2' p0 (by omega)) ?_
        rw [F_142_71, A_190, gd_in (by omega) (by omega)]
        refine Tr_set (fun V3 e3 n3 => ?_)
        rw [w32_id (x := p + 1) (by omega) (by omega)]
        have q1 : V3 189 = upI (W 189) (12 * i + p) (sA s p) := by rw [n3 189 (by decide), e2]
        have q2 : V3 190 = upI (W 190) (12 * i + p) (rst s p) := by rw [e3, n2 190 (by decide)]
        refine ih (p + 1) V3 (by omega) (by omega) (by omega) (fun a a1 a2 => by rw [n3 a a2, n2 a a1, fW a a1 a2]) (fun q q0 q1' => ?_) (fun j hj => ?_)
        · rw [q1, q2]
          by_cases z : q = p
          · rw [z, upI_s, upI_s]; exact ⟨rfl, rfl⟩
          · rw [upI_n _ _ (by omega), upI_n _ _ (by omega)]; exact kW q q0 (by omega)
        · rw [q1, q2, upI_n _ _ (by omega), upI_n _ _ (by omega)]; exact oW j hj
  exact hl FU 0 V (by omega) (by omega) (by rw [FU_v]; omega) (fun _ _ _ => rfl) (fun q q0 q1 => by omega) (fun _ _ => ⟨rfl, rfl⟩)
theorem rst_i {G : GM} {s s' : SL} {r : Int} (hs : SOK G s) (hs' : SOK G s') (h0 : 0 ≤ r) (h1 : r < qR G) (h : rst s r = rst s' r) : sX s r = sX s' r ∧ sT s r = sT s' r ∧ sN s r = sN s' r := by
  have a := hs.2.2 r h0 h1
  have b := hs'.2.2 r h0 h1
  have na := sN_r hs h0 h1
  have nb := sN_r hs' h0 h1
  unfold rst at h
  rcases a.1 with e | e <;> rcases a.2.1 with f | f <;> rcases b.1 with e' | e' <;> rcases b.2.1 with f' | f' <;> rw [e, f, e', f'] at h <;> rw [e, f, e', f'] <;> omega
theorem sl_eq {G : GM} {s s' : SL} (hG : GOK G) (hs : SOK G s) (hs' : SOK G s') (hn : SNM G s) (hn' : SNM G s') (h : ∀ p, 0 ≤ p → p < qR G → sA s p = sA s' p ∧ rst s p = rst s' p) : s = s' := by
  refine SL_ext hG hs hs' hn hn' (fun p p0 p1 => ?_)
  have h1 := h p p0 p1
  have hr := hs.1 p p0 p1
  have h2 := rst_i hs hs' hr.1 hr.2 (h (sA s p) hr.1 hr.2).2
  unfold pk
  rw [← h1.1, h2.1, h2.2.1, h2.2.2]
theorem M_areAlike {G : GM} {s s' : SL} {b i j : Int} {V : ASt} (hG : GOK G) (hs : SOK G s) (hs' : SOK G s') (hn : SNM G s) (hn' : SNM G s') (g1 : rG G b V) (hj : 0 ≤ j) (hji : j < i) (hi : i ≤ 12) (h1 : nt G s i V) (h2 : nt G s' j V) :
    ∃ y, f_M_areAlike S0 V 142 i j = some (y, V) ∧ ((y = 1 ∧ s = s' ∧ (i - j) % 2 = 0) ∨ (y = 0 ∧ ¬ (s = s' ∧ (i - j) % 2 = 0))) := by
  have hR := hG.2.2.1
  unfold f_M_areAlike
  rw [gd_t O_142]
  have hl : ∀ (n : Nat) (p : Int), 0 ≤ p → p ≤ qR G → qR G - p < n → (∀ q, 0 ≤ q → q < p → sA s q = sA s' q ∧ rst s q = rst s' q) →
      ∃ y, b_M_areAlike_L2 S0 142 i j n V p = some (y, V) ∧ ((y = 1 ∧ s = s' ∧ (i - j) % 2 = 0) ∨ (y = 0 ∧ ¬ (s = s' ∧ (i - j) % 2 = 0))) := by
    intro n
    induction n with
    | zero => intro p h1 h2 h3; omega
    | succ n ih =>
      intro p p0 p1 hn2 hq
      rw [b_M_areAlike_L2, M_rulesAll g1, bnd_e]
      by_cases c : qR G ≤ p
      · have es : s = s' := sl_eq hG hs hs' hn hn' (fun q q0 q1 => hq q q0 (by omega))
        rw [if_pos c, w32_id (x := i - j) (by omega) (by omega), tmod_e (by omega)]
        by_cases d : (i - j) % 2 = 0
        · rw [if_pos d]; exact ⟨1, rfl, Or.inl ⟨rfl, es, d⟩⟩
        · rw [if_neg d]; exact ⟨0, rfl, Or.inr ⟨rfl, fun z => d z.2⟩⟩
      · have a1 := h1 p p0 (by omega)
        have a2 := h2 p p0 (by omega)
        rw [if_neg c, w32_id (x := 12 * i) (by omega) (by omega), w32_id (x := 12 * i + p) (by omega) (by omega), w32_id (x := 12 * j) (by omega) (by omega), w32_id (x := 12 * j + p) (by omega) (by omega), F_142_70, A_189, gd_in (by omega) (by omega), A_189, gd_in (by omega) (by omega), a1.1, a2.1]
        by_cases d : sA s p = sA s' p
        · rw [if_pos d, F_142_71, A_190, gd_in (by omega) (by omega), A_190, gd_in (by omega) (by omega), a1.2, a2.2]
          by_cases e : rst s p = rst s' p
          · rw [if_pos e, w32_id (x := p + 1) (by omega) (by omega)]
            refine ih (p + 1) (by omega) (by omega) (by omega) (fun q q0 q1 => ?_)
            by_cases z : q = p
            · rw [z]; exact ⟨d, e⟩
            · exact hq q q0 (by omega)
          · rw [if_neg e]; exact ⟨0, rfl, Or.inr ⟨rfl, fun z => e (by rw [z.1])⟩⟩
        · rw [if_neg d]; exact ⟨0, rfl, Or.inr ⟨rfl, fun z => d (by rw [z.1])⟩⟩
  exact hl FU 0 (by omega) (by omega) (by rw [FU_v]; omega) (fun q q0 q1 => by omega)
theorem rst_d {G : GM} {s : SL} {r : Int} (hs : SOK G s) (h0 : 0 ≤ r) (h1 : r < qR G) : 0 ≤ rst s r ∧ rst s r ≤ 27 ∧ rst s r / 8 = sN s r ∧ rst s r % 2 = sX s r ∧ rst s r / 2 % 2 = sT s r := by
  have a := hs.2.2 r h0 h1
  have na := sN_r hs h0 h1
  unfold rst
  rcases a.1 with e | e <;> rcases a.2.1 with f | f <;> rw [e, f] <;> omega
theorem M_back {x : ST} {s : SL} {V : ASt} (hG : GOK (xG x)) (hs : SOK (xG x) s) (h : rI x V) (h1 : nt (xG x) s 0 V) : Tr (f_M_back S0 V 142) (fun _ U => rI (uS x s) U ∧ ∀ a, a ≠ 169 → a ≠ 170 → a ≠ 171 → a ≠ 172 → U a = V a) := by
  have hR := hG.2.2.1
  have h' := h
  obtain ⟨b, g1, -⟩ := h
  unfold f_M_back
  rw [gd_t O_142]
  have hl : ∀ (n : Nat) (p : Int) (W : ASt), 0 ≤ p → p ≤ qR (xG x) → qR (xG x) - p < n → (∀ a, a ≠ 169 → a ≠ 170 → a ≠ 171 → a ≠ 172 → W a = V a) → (∀ k, 0 ≤ k → k < p → W 169 k = sA s k ∧ W 170 k = sX s k ∧ W 171 k = sT s k ∧ W 172 k = sN s k) →
      Tr (b_M_back_L2 S0 142 n W p) (fun _ U => rI (uS x s) U ∧ ∀ a, a ≠ 169 → a ≠ 170 → a ≠ 171 → a ≠ 172 → U a = V a) := by
    intro n
    induction n with
    | zero => intro p W h1 h2 h3; omega
    | succ n ih =>
      intro p W p0 p1 hn fW kW
      have gW : rG (xG x) b W := rG_fr (fun a a1 a2 => fW a (by omega) (by omega) (by omega) (by omega)) g1
      rw [b_M_back_L2]
      refine Tr_bq (M_rulesAll gW) ?_
      refine Tr_if (fun c => ?_) (fun c => ?_)
      · exact Tr_ret ⟨rI_uS h' fW (fun k k0 k1 => kW k k0 (by omega)), fW⟩
      · have hr := h1 p p0 (by omega)
        rw [show 12 * 0 + p = p by omega] at hr
        have hd := rst_d hs p0 (show p < qR (xG x) by omega)
        have hss := hs.2.2 p p0 (by omega)
        have v9 : W 189 p = sA s p := by rw [fW 189 (by decide) (by decide) (by decide) (by decide)]; exact hr.1
        have v0 : W 190 p = rst s p := by rw [fW 190 (by decide) (by decide) (by decide) (by decide)]; exact hr.2
        rw [F_142_70, A_189, gd_in (by omega) (by omega), F_142_44, A_169, gd_in (by omega) (by omega), v9]
        refine Tr_set (fun V1 e1 n1 => ?_)
        rw [F_142_71, A_190, gd_in (by omega) (by omega), F_142_47, A_172, gd_in (by omega) (by omega), n1 190 (by decide), v0, tdiv_e hd.1, hd.2.2.1, w32_id (x := sN s p) (by omega) (by omega)]
        refine Tr_set (fun V2 e2 n2 => ?_)
        have w0 : V2 190 p = rst s p := by rw [n2 190 (by decide), n1 190 (by decide), v0]
        rw [w0, tmod_e hd.1, hd.2.2.2.1]
        have hJ : Tr (b_M_back_J59 S0 (b_M_back_L2 S0 142 n) V2 142 p (aF S0 142 45) p (sX s p)) (fun _ U => rI (uS x s) U ∧ ∀ a, a ≠ 169 → a ≠ 170 → a ≠ 171 → a ≠ 172 → U a = V a) := by
          unfold b_M_back_J59
          rw [F_142_45, A_170, gd_in (by omega) (by omega), zb_t hss.1]
          refine Tr_set (fun V3 e3 n3 => ?_)
          have w1 : V3 190 p = rst s p := by rw [n3 190 (by decide), w0]
          rw [F_142_71, A_190, gd_in (by omega) (by omega), w1, tdiv_e hd.1, w32_id (x := rst s p / 2) (by omega) (by omega), tmod_e (show 0 ≤ rst s p / 2 by omega), hd.2.2.2.2]
          have hJ2 : Tr (b_M_back_J84 S0 (b_M_back_L2 S0 142 n) V3 142 p (aF S0 142 46) p (sT s p)) (fun _ U => rI (uS x s) U ∧ ∀ a, a ≠ 169 → a ≠ 170 → a ≠ 171 → a ≠ 172 → U a = V a) := by
            unfold b_M_back_J84
            rw [F_142_46, A_171, gd_in (by omega) (by omega), zb_t hss.2.1]
            refine Tr_set (fun V4 e4 n4 => ?_)
            rw [w32_id (x := p + 1) (by omega) (by omega)]
            refine ih (p + 1) V4 (by omega) (by omega) (by omega) (fun a a1 a2 a3 a4 => by rw [n4 a a3, n3 a a2, n2 a a4, n1 a a1, fW a a1 a2 a3 a4]) (fun k k0 k1 => ?_)
            have q1 : V4 169 = upI (W 169) p (sA s p) := by rw [n4 169 (by decide), n3 169 (by decide), n2 169 (by decide), e1]
            have q2 : V4 170 = upI (W 170) p (sX s p) := by rw [n4 170 (by decide), e3, n2 170 (by decide), n1 170 (by decide)]
            have q3 : V4 171 = upI (W 171) p (sT s p) := by rw [e4, n3 171 (by decide), n2 171 (by decide), n1 171 (by decide)]
            have q4 : V4 172 = upI (W 172) p (sN s p) := by rw [n4 172 (by decide), n3 172 (by decide), e2, n1 172 (by decide)]
            rw [q1, q2, q3, q4]
            by_cases z : k = p
            · rw [z, upI_s, upI_s, upI_s, upI_s]; exact ⟨rfl, rfl, rfl, rfl⟩
            · rw [upI_n _ _ z, upI_n _ _ z, upI_n _ _ z, upI_n _ _ z]; exact kW k k0 (by omega)
          rcases hss.2.1 with e | e
          · rw [e] at hJ2 ⊢; exact Tr_f (by decide) hJ2
          · rw [e] at hJ2 ⊢; exact Tr_t rfl hJ2
        rcases hss.1 with e | e
        · rw [e] at hJ ⊢; exact Tr_f (by decide) hJ
        · rw [e] at hJ ⊢; exact Tr_t rfl hJ
  exact hl FU 0 V (by omega) (by omega) (by rw [FU_v]; omega) (fun _ _ _ _ _ => rfl) (fun k k0 k1 => by omega)
theorem R_ring {x : ST} {V : ASt} (hG : GOK (xG x)) (hs : SOK (xG x) (xS x)) (hn : SNM (xG x) (xS x)) (h : rI x V) (h0 : 0 ≤ xN x 0 ∧ xN x 0 ≤ 90000) (hk : (0 ≤ xN x 10 ∧ xN x 10 ≤ 2) ∧ (0 ≤ xN x 11 ∧ xN x 11 ≤ 2)) (n w : Int) : Tr (f_M_ring S0 V 142 n w) (fun r U => r = sRing x n w ∧ rI x U ∧ ∀ a, a < 142 → U a = V a) := by
  have hR := hG.2.2.1
  have hok := slI_ok hG hs hn
  have h' := h
  obtain ⟨b, g1, g2, g3, g4, -⟩ := h
  unfold f_M_ring
  rw [gd_t O_142]
  refine Tr_bq (M_hasFields hG g1) ?_
  by_cases c : qF (xG x) = 0
  · rw [if_pos c]
    refine Tr_t rfl (Tr_ret ⟨?_, h', fun _ _ => rfl⟩)
    unfold sRing; rw [if_pos (Or.inl c)]
  rw [if_neg c]
  refine Tr_f (by decide) (Tr_bq (M_is V n 1 12) ?_)
  by_cases c1 : 1 ≤ n ∧ n ≤ 12
  case neg =>
    rw [if_neg c1]
    refine Tr_t rfl (Tr_ret ⟨?_, h', fun _ _ => rfl⟩)
    unfold sRing; rw [if_pos (Or.inr (Or.inl c1))]
  rw [if_pos c1]
  refine Tr_f (by decide) (Tr_bq (M_is V w 0 1) ?_)
  by_cases c2 : 0 ≤ w ∧ w ≤ 1
  case neg =>
    rw [if_neg c2]
    refine Tr_t rfl (Tr_ret ⟨?_, h', fun _ _ => rfl⟩)
    unfold sRing; rw [if_pos (Or.inr (Or.inr c2))]
  rw [if_pos c2]
  refine Tr_f (by decide) ?_
  have hcc : ¬ (qF (xG x) = 0 ∨ ¬ (1 ≤ n ∧ n ≤ 12) ∨ ¬ (0 ≤ w ∧ w ≤ 1)) := fun z => z.elim c (fun y => y.elim (fun u => u c1) (fun u => u c2))
  rw [r48 h']
  refine Tr_mono (P := fun r U => RG x n w r ∧ rI x U ∧ ∀ a, a < 142 → U a = V a) ?_ (fun r U hq => ⟨RG_e hcc hq.1, hq.2⟩)
  have hJ : ∀ (i r : Int) (W : ASt), rI (ryI x i) W → nt (xG x) (xS x) 0 W → (∀ a, a < 142 → W a = V a) → RG x n w r → Tr (b_M_ring_J145 S0 W 142 (xN x 0) r) (fun r U => RG x n w r ∧ rI x U ∧ ∀ a, a < 142 → U a = V a) := by
    intro i r W hW nW fW hr
    unfold b_M_ring_J145
    refine Tr_bnd (M_back (x := ryI x i) (s := xS x) hG hs hW nW) ?_
    rintro _ U ⟨u1, u2⟩
    refine Tr_set (fun V1 e1 n1 => Tr_ret ⟨hr, ?_, fun a ha => by rw [n1 a (by omega), u2 a (by omega) (by omega) (by omega) (by omega), fW a ha]⟩)
    have := rI_uN0 u1 e1 n1
    have e : uN (uS (ryI x i) (xS x)) 0 (xN x 0) = x := by
      show uN (uN x 0 (xN x 0 + i)) 0 (xN x 0) = x
      rw [uN_uN, uN_id]
    rw [e] at this
    exact this
  refine Tr_bnd (M_notes hG hs g1 g4 (i := 0) (by decide)) ?_
  rintro _ V0 ⟨m1, m2, -⟩
  have hl : ∀ (f : Nat) (i : Int) (W : ASt), 1 ≤ i → i ≤ n + 1 → n + 1 - i < f → rI (ryI x (i - 1)) W → (∀ k, 0 ≤ k → k < i → nt (xG x) (slI x k) k W) → (∀ a, a < 142 → W a = V a) → (∀ i' j', 1 ≤ i' → i' < i → 0 ≤ j' → j' < i' → ¬ alk x i' j') →
      Tr (b_M_ring_L44 S0 142 n w (xN x 0) f W (-1) i) (fun r U => RG x n w r ∧ rI x U ∧ ∀ a, a < 142 → U a = V a) := by
    intro f
    induction f with
    | zero => intro i W h1 h2 h3; omega
    | succ f ih =>
      intro i W i1 i2 hf hW nW fW no
      rw [b_M_ring_L44]
      refine Tr_if (fun d => ?_) (fun d => ?_)
      · exact hJ (i - 1) (-1) W hW (nW 0 (by omega) (by omega)) fW (Or.inr ⟨fun i' j' a1 a2 a3 a4 => no i' j' a1 (by omega) a3 a4, rfl⟩)
      refine Tr_t rfl ?_
      -- the changes of the Sunday
      have hS : ∀ U : ASt, rI (ryI x i) U → (∀ k, 0 ≤ k → k ≤ i → nt (xG x) (slI x k) k U) → (∀ a, a < 142 → U a = V a) → Tr (b_M_ring_L93 S0 (b_M_ring_L44 S0 142 n w (xN x 0) f) 142 n w (xN x 0) i FU U (-1) 0) (fun r U => RG x n w r ∧ rI x U ∧ ∀ a, a < 142 → U a = V a) := by
        intro U hU nU fU
        have hU' := hU
        obtain ⟨bU, u1, -⟩ := hU
        have hm : ∀ (m : Nat) (j : Int), 0 ≤ j → j ≤ i → i - j + 1 < m → (∀ j', 0 ≤ j' → j' < j → ¬ alk x i j') → Tr (b_M_ring_L93 S0 (b_M_ring_L44 S0 142 n w (xN x 0) f) 142 n w (xN x 0) i m U (-1) j) (fun r U => RG x n w r ∧ rI x U ∧ ∀ a, a < 142 → U a = V a) := by
          intro m
          induction m with
          | zero => intro j h1 h2 h3; omega
          | succ m ihm =>
            intro j j0 j1 hm hj
            rw [b_M_ring_L93]
            refine Tr_if (fun e => ?_) (fun e => ?_)
            · rw [w32_id (x := i + 1) (by omega) (by omega)]
              refine ih (i + 1) U (by omega) (by omega) (by omega) (by rw [show i + 1 - 1 = i by omega]; exact hU') (fun k k0 k1 => nU k k0 (by omega)) fU (fun i' j' a1 a2 a3 a4 => ?_)
              by_cases z : i' = i
              · subst z; exact hj j' a3 (by omega)
              · exact no i' j' a1 (by omega) a3 a4
            refine Tr_t rfl ?_
            obtain ⟨y, y1, y2⟩ := M_areAlike hG (hok i).1 (hok j).1 (hok i).2 (hok j).2 u1 j0 (show j < i by omega) (by omega) (nU i (by omega) (by omega)) (nU j j0 (by omega))
            refine Tr_bq y1 ?_
            rcases y2 with ⟨ey, e1, e2⟩ | ⟨ey, e1⟩
            · rw [ey]
              refine Tr_f (by decide) ?_
              have hrg : RG x n w (if w = 0 then i - j else j) := Or.inl ⟨i, j, i1, by omega, j0, by omega, ⟨e1, e2⟩, fun i' j' a1 a2 a3 a4 => no i' j' a1 a2 a3 a4, rfl⟩
              have hfin : ∀ v j2 : Int, v ≠ -1 → RG x n w v → Tr (b_M_ring_L93 S0 (b_M_ring_L44 S0 142 n w (xN x 0) f) 142 n w (xN x 0) i m U v j2) (fun r U => RG x n w r ∧ rI x U ∧ ∀ a, a < 142 → U a = V a) := by
                intro v j2 hv hr
                have hK : Tr (b_M_ring_L44 S0 142 n w (xN x 0) f U v (w32 (i + 1))) (fun r U => RG x n w r ∧ rI x U ∧ ∀ a, a < 142 → U a = V a) := by
                  rw [show f = (f - 1) + 1 by omega, b_M_ring_L44]
                  have := hJ i v U hU' (nU 0 (by omega) (by omega)) fU hr
                  exact Tr_if (fun _ => this) (fun _ => Tr_f hv this)
                rw [show m = (m - 1) + 1 by omega, b_M_ring_L93]
                exact Tr_if (fun _ => hK) (fun _ => Tr_f hv hK)
              refine Tr_if (fun e3 => ?_) (fun e3 => ?_)
              · rw [if_pos e3] at hrg
                rw [w32_id (x := i - j) (by omega) (by omega)]
                exact hfin (i - j) _ (by omega) hrg
              · rw [if_neg e3] at hrg
                exact hfin j _ (by omega) hrg
            · rw [ey]
              refine Tr_t rfl ?_
              rw [w32_id (x := j + 1) (by omega) (by omega)]
              refine ihm (j + 1) (by omega) (by omega) (by omega) (fun j' a1 a2 => ?_)
              by_cases z : j' = j
              · subst z; exact fun q => e1 q
              · exact hj j' a1 (by omega)
        exact hm FU 0 (by omega) (by omega) (by rw [FU_v]; omega) (fun j' a1 a2 => by omega)
      have hJ74 : ∀ (U : ASt) (s : SL), s = slI x i → rI (uS (ryI x (i - 1)) s) U → (∀ k, 0 ≤ k → k < i → nt (xG x) (slI x k) k U) → (∀ a, a < 142 → U a = V a) → Tr (b_M_ring_J74 S0 (b_M_ring_L44 S0 142 n w (xN x 0) f) U 142 n w (xN x 0) (-1) i) (fun r U => RG x n w r ∧ rI x U ∧ ∀ a, a < 142 → U a = V a) := by
        intro U s es hU nU fU
        unfold b_M_ring_J74
        have e48 : U 142 48 = xN x 0 + (i - 1) := by rw [r48 hU]; exact ryI_n0 x (i - 1)
        rw [e48, w32_id (by omega) (by omega)]
        refine Tr_set (fun V1 e1 n1 => ?_)
        have h1 := rI_uN0 hU e1 n1
        have ee : uN (uS (ryI x (i - 1)) s) 0 (xN x 0 + (i - 1) + 1) = ryI x i := by
          show uN (uN (uS x s) 0 (xN x 0 + (i - 1))) 0 (xN x 0 + (i - 1) + 1) = _
          rw [uN_uN, es, show xN x 0 + (i - 1) + 1 = xN x 0 + i by omega]; rfl
        rw [ee] at h1
        have h1' := h1
        obtain ⟨b1, p1, p2, p3, p4, -⟩ := h1
        refine Tr_bnd (M_notes (s := slI x i) hG (hok i).1 p1 p4 (i := i) (by omega)) ?_
        rintro _ U2 ⟨q1, q2, q3⟩
        refine hS U2 (rI_fr (fun a ha => q1 a (by unfold rK at ha; omega) (by unfold rK at ha; omega)) (fun k _ => by rw [q1 142 (by decide) (by decide)]) h1') (fun k k0 k1 => ?_) (fun a ha => by rw [q1 a (by omega) (by omega), n1 a (by omega), fU a ha])
        by_cases z : k = i
        · rw [z]; exact q2
        · intro p p0' p1'
          have := q3 (12 * k + p) (by omega)
          rw [this.1, this.2, n1 189 (by decide), n1 190 (by decide)]
          exact nU k k0 (by omega) p p0' p1'
      refine Tr_bnd (R_changedBy (x := ryI x (i - 1)) hG (hok _).1 hW (by rw [ryI_n0]; omega) (by rw [ryI_n _ _ (by decide), ryI_n _ _ (by decide)]; exact hk)) ?_
      rintro r U ⟨u1, u2, u3⟩
      have nU : ∀ k, 0 ≤ k → k < i → nt (xG x) (slI x k) k U := fun k k0 k1 p p0 p1 => by rw [u3 189 (by omega), u3 190 (by omega)]; exact nW k k0 k1 p p0 p1
      have es := slI_s x (i := i - 1) (by omega)
      rw [show i - 1 + 1 = i by omega] at es
      rw [u1]
      refine Tr_if (fun e => ?_) (fun e => ?_)
      · rw [if_pos e] at es
        exact hJ74 U (slI x (i - 1)) es.symm u2 nU (fun a ha => by rw [u3 a (by omega), fW a ha])
      · rw [if_neg e] at es
        have hc1 : chg (xG x) (slI x (i - 1)) (cbS (ryI x (i - 1))) = 1 := by
          rcases cbS_ok (ryI x (i - 1)) with z | z
          · exact absurd z e
          · exact z
        refine Tr_bnd (R_changes (x := ryI x (i - 1)) hG (hok _).1 u2 (chg_r hc1)) ?_
        rintro _ Z ⟨z1, z2⟩
        refine hJ74 Z _ es.symm z1 (fun k k0 k1 p p0 p1 => ?_) (fun a ha => by rw [z2 a (by omega) (by omega) (by omega) (by omega), u3 a (by omega), fW a ha])
        rw [z2 189 (by decide) (by decide) (by decide) (by decide), z2 190 (by decide) (by decide) (by decide) (by decide)]; exact nU k k0 k1 p p0 p1
  refine hl FU 1 V0 (by omega) (by omega) (by rw [FU_v]; omega) ?_ (fun k k0 k1 => ?_) (fun a ha => m1 a (by omega) (by omega)) (fun i' j' a1 a2 => by omega)
  · rw [show (1 : Int) - 1 = 0 from rfl, ryI_0]
    exact rI_fr (fun a ha => m1 a (by unfold rK at ha; omega) (by unfold rK at ha; omega)) (fun k _ => by rw [m1 142 (by decide) (by decide)]) h'
  · have : k = 0 := by omega
    subst this
    exact m2
-- ---- the class
theorem dIt_tl {x : ST} {t : Int} {V U : ASt} (h : dIt x t V) (hf : ∀ a, a < 116 → U a = V a) : dIt x t U := by
  have h14 := h.2.2.2.2.2.2.2.2.2.2.2.2.2.2
  exact dIt_mi h rfl rfl rfl (fun _ _ => rfl) (fun a a1 _ => hf a (by omega)) (fun a ha => hf a (by omega)) (dMi_k (hf 35 (by decide)) (hf 108 (by decide)) (hf 37 (by decide)) (hf 6 (by decide)) (hf 22 (by decide)) (hf 111 (by decide)) (hf 112 (by decide)) (hf 115 (by decide)) h14)
theorem isSl_t {i : Int} (h : 0 ≤ i ∧ i ≤ 12) : isSl (116 + 2 * i) := by unfold isSl; omega
theorem D_ring {x : ST} {t : Int} {V : ASt} (hG : GOK (xG x)) (hs : SOK (xG x) (xS x)) (hn : SNM (xG x) (xS x)) (h : dIt x t V) (h00 : 0 ≤ xN x 0 ∧ xN x 0 ≤ 90000) (hk : (0 ≤ xN x 10 ∧ xN x 10 ≤ 2) ∧ (0 ≤ xN x 11 ∧ xN x 11 ≤ 2)) (n w : Int) : Tr (f_SG_ring S0 V 0 n w) (fun r U => r = sRing x n w ∧ dIt x t U ∧ frX V U) := by
  have hR := hG.2.2.1
  have hok := slI_ok hG hs hn
  have h' := h
  obtain ⟨h0, k1, h2, h3, h4, -⟩ := h
  have htm := h0
  unfold isGm at htm
  unfold f_SG_ring
  rw [gd_t O_0, k1.1, gd_t (OG h0), h2.1.1]
  refine Tr_if (fun cf => ?_) (fun cf => ?_)
  · refine Tr_ret ⟨?_, h', fun _ _ => rfl⟩
    unfold sRing; rw [if_pos (Or.inl cf)]
  refine Tr_if (fun d1 => ?_) (fun d1 => ?_)
  · refine Tr_ret ⟨?_, h', fun _ _ => rfl⟩
    unfold sRing; rw [if_pos (Or.inr (Or.inl (by omega)))]
  refine Tr_if (fun d2 => ?_) (fun d2 => ?_)
  · refine Tr_ret ⟨?_, h', fun _ _ => rfl⟩
    unfold sRing; rw [if_pos (Or.inr (Or.inl (by omega)))]
  refine Tr_if (fun d3 => ?_) (fun d3 => ?_)
  · refine Tr_ret ⟨?_, h', fun _ _ => rfl⟩
    unfold sRing; rw [if_pos (Or.inr (Or.inr (by omega)))]
  by_cases d4 : w ≤ 1
  case neg =>
    refine Tr_f d4 (Tr_ret ⟨?_, h', fun _ _ => rfl⟩)
    unfold sRing; rw [if_pos (Or.inr (Or.inr (by omega)))]
  refine Tr_t d4 ?_
  have hcc : ¬ (qF (xG x) = 0 ∨ ¬ (1 ≤ n ∧ n ≤ 12) ∨ ¬ (0 ≤ w ∧ w ≤ 1)) := fun z => z.elim cf (fun y => y.elim (fun u => u (by omega)) (fun u => u (by omega)))
  refine Tr_mono (P := fun r U => RG x n w r ∧ dIt x t U ∧ frX V U) ?_ (fun r U hq => ⟨RG_e hcc hq.1, hq.2⟩)
  have tl : ∀ W, dIt x t W → ∀ i, 0 ≤ i → i ≤ 12 → W 108 i = 116 + 2 * i := fun W hW => hW.2.2.2.2.2.2.2.2.2.2.2.2.2.2.2.2.2.2.2.2.2.1
  rw [F_0_12, A_108, gd_in (by omega) (by omega), tl V h' 0 (by omega) (by omega), show (116 : Int) + 2 * 0 = 116 from rfl, gd_t O_116, F_0_4]
  refine Tr_bnd (S_copyFrom hG (show isSl 116 by unfold isSl; omega) (show isSl 41 from Or.inl rfl) (by decide) h4) ?_
  rintro _ V0 ⟨m1, m2, -⟩
  have hl : ∀ (f : Nat) (i : Int) (W : ASt), 1 ≤ i → i ≤ n + 1 → n + 1 - i < f → dIt x t W → (∀ k, 0 ≤ k → k < i → dS (xG x) (slI x k) (116 + 2 * k) W) → frX V W → (∀ i' j', 1 ≤ i' → i' < i → 0 ≤ j' → j' < i' → ¬ alk x i' j') →
      Tr (b_SG_ring_L47 S0 0 n w f W i) (fun r U => RG x n w r ∧ dIt x t U ∧ frX V U) := by
    intro f
    induction f with
    | zero => intro i W h1 h2 h3; omega
    | succ f ih =>
      intro i W i1 i2 hf hW nW fW no
      rw [b_SG_ring_L47]
      refine Tr_if (fun d => ?_) (fun d => ?_)
      · exact Tr_ret ⟨Or.inr ⟨fun i' j' a1 a2 a3 a4 => no i' j' a1 (by omega) a3 a4, rfl⟩, hW, fW⟩
      rw [w32_id (x := i - 1) (by omega) (by omega), F_0_12, A_108, gd_in (by omega) (by omega), tl W hW (i - 1) (by omega) (by omega)]
      refine Tr_bnd (D_worthsOf hG (hok (i - 1)).1 (hok (i - 1)).2 hW (isSl_t (by omega)) (by omega) (nW (i - 1) (by omega) (by omega))) ?_
      rintro q U ⟨u1, u2⟩
      have hq : 0 ≤ q := by have := u1.2.1; unfold isWo at this; omega
      have e17 : W 0 17 = xN x 0 := hW.2.1.2.2
      rw [gd_t (show nn q = true from decide_eq_true hq), gd_t (OW u1.2.1), e17, w32_id (x := xN x 0 + i) (by omega) (by omega), w32_id (x := xN x 0 + i - 1) (by omega) (by omega), and32_1]
      have hvr := vR_of hG u1.2.1 u1.1.1 cf u1.1.2.2.1 u1.2.2 (c := -1) (j := (xN x 0 + i - 1) % 2) (Or.inl rfl) (by omega)
      rw [show scS (slI x (i - 1)) (-1) = slI x (i - 1) from rfl, beg_m] at hvr
      unfold vR at hvr
      refine Tr_bnd (Q_loserOf hG cf u1 (j := (xN x 0 + i - 1) % 2) (by omega)) ?_
      rintro lo Y ⟨w1, w2, w3⟩
      rw [beg_m] at w1
      have est : w32 (1 - (xN x 0 + i - 1) % 2) = (xN x 0 + (i - 1) + 1) % 2 := by rw [w32_id (by omega) (by omega)]; omega
      rw [F_0_16, est]
      have hlo : lo = -1 ∨ lo = 0 ∨ lo = 1 := by
        rw [w1]
        by_cases e : vW (xG x) (slI x (i - 1)) (beg (xG x) (xN x 0 + i - 1)) = 0
        · rw [if_pos e]; exact Or.inl rfl
        · rw [if_neg e]
          by_cases e2 : vW (xG x) (slI x (i - 1)) (beg (xG x) (xN x 0 + i - 1)) < 0
          · rw [if_pos e2]; omega
          · rw [if_neg e2]; omega
      refine Tr_bnd (Q_choiceOf hG cf hk w2 (pl := lo) (st := (xN x 0 + (i - 1) + 1) % 2) (by omega) hlo) ?_
      rintro r Z ⟨z1, z2, z3⟩
      have ecb : r = cbS (ryI x (i - 1)) := by
        have ek : ∀ pl, (pl = 0 ∨ pl = 1) → kdF (ryI x (i - 1)) pl = kdF x pl := fun pl hp => by
          unfold kdF
          rw [ryI_n x (i - 1) (show 10 + pl ≠ 0 by omega)]
        have ew : ∀ pl, (pl = 0 ∨ pl = 1) → wdS (ryI x (i - 1)) pl = choS (xG x) (slI x (i - 1)) (kdF x pl) (if pl = (xN x 0 + (i - 1) + 1) % 2 then 1 else 0) ((xN x 0 + (i - 1) + 1) % 2) := fun pl hp => by
          unfold wdS
          rw [ek pl hp, ryI_n0]; rfl
        have ev : vW (xG (ryI x (i - 1))) (xS (ryI x (i - 1))) (beg (xG (ryI x (i - 1))) (xN (ryI x (i - 1)) 0)) = vW (xG x) (slI x (i - 1)) (beg (xG x) (xN x 0 + i - 1)) := by
          rw [ryI_n0, show xN x 0 + (i - 1) = xN x 0 + i - 1 by omega]; rfl
        have en0 : xN (ryI x (i - 1)) 0 % 2 = (xN x 0 + i - 1) % 2 := by rw [ryI_n0]; omega
        rw [z1]
        unfold cbS
        rw [ev, en0]
        by_cases e : vW (xG x) (slI x (i - 1)) (beg (xG x) (xN x 0 + i - 1)) = 0
        · rw [if_pos e]
          rw [if_pos e] at w1
          subst w1
          unfold choS kdF
          rw [if_pos rfl, if_pos rfl]
        · rw [if_neg e]
          rw [if_neg e] at w1
          by_cases e2 : vW (xG x) (slI x (i - 1)) (beg (xG x) (xN x 0 + i - 1)) = 1
          · rw [if_pos e2]
            rw [if_neg (by omega)] at w1
            rw [ew _ (by omega), w1]
          · rw [if_neg e2]
            rw [if_pos (by omega)] at w1
            rw [ew _ (by omega), w1]
      have fQ : frQ t W Z := frQ_tr u2 (frQ_tr w3 z3)
      have nZ : ∀ k, 0 ≤ k → k < i → dS (xG x) (slI x k) (116 + 2 * k) Z := fun k k0 k1 => dS_fr (fQ _ (by omega) (by omega) (by omega) (by omega)) (fQ _ (by omega) (by omega) (by omega) (by omega)) (nW k k0 k1)
      rw [A_108, gd_in (by omega) (by omega), tl Z z2.1 i (by omega) (by omega), tl Z z2.1 (i - 1) (by omega) (by omega), gd_t (OS (isSl_t (i := i) (by omega)))]
      refine Tr_bnd (S_copyFrom hG (isSl_t (i := i) (by omega)) (isSl_t (i := i - 1) (by omega)) (by omega) (nZ (i - 1) (by omega) (by omega))) ?_
      rintro _ Y2 ⟨v1, v2, -⟩
      have hY2 : dIt x t Y2 := dIt_tl z2.1 (fun a ha => v2 a (by omega) (by omega))
      have fY2 : frX V Y2 := frX_tr fW (frX_tr (frQ_X h0 fQ) (fun a ha => v2 a (by omega) (by omega)))
      have nY2 : ∀ k, 0 ≤ k → k < i → dS (xG x) (slI x k) (116 + 2 * k) Y2 := fun k k0 k1 => dS_fr (v2 _ (by omega) (by omega)) (v2 _ (by omega) (by omega)) (nZ k k0 k1)
      have es := slI_s x (i := i - 1) (by omega)
      rw [show i - 1 + 1 = i by omega] at es
      have hS : ∀ U : ASt, dIt x t U → frX V U → (∀ k, 0 ≤ k → k ≤ i → dS (xG x) (slI x k) (116 + 2 * k) U) → Tr (b_SG_ring_L139 S0 (b_SG_ring_L47 S0 0 n w f) 0 n w i FU U (w32 (i - 2))) (fun r U => RG x n w r ∧ dIt x t U ∧ frX V U) := by
        intro U hU fU nU
        rw [w32_id (x := i - 2) (by omega) (by omega)]
        have hm : ∀ (m : Nat) (j : Int), -2 ≤ j → j + 2 ≤ i → j + 3 < m → (i - j) % 2 = 0 → (∀ j', j < j' → j' < i → ¬ alk x i j') → Tr (b_SG_ring_L139 S0 (b_SG_ring_L47 S0 0 n w f) 0 n w i m U j) (fun r U => RG x n w r ∧ dIt x t U ∧ frX V U) := by
          intro m
          induction m with
          | zero => intro j h1 h2 h3; omega
          | succ m ihm =>
            intro j j0 j1 hm hp hj
            rw [b_SG_ring_L139]
            refine Tr_if (fun e => ?_) (fun e => ?_)
            · rw [w32_id (x := i + 1) (by omega) (by omega)]
              refine ih (i + 1) U (by omega) (by omega) (by omega) hU (fun k k0 k1 => nU k k0 (by omega)) fU (fun i' j' a1 a2 a3 a4 => ?_)
              by_cases z : i' = i
              · subst z; exact hj j' (by omega) a4
              · exact no i' j' a1 (by omega) a3 a4
            rw [F_0_12, A_108, gd_in (by omega) (by omega), A_108, gd_in (by omega) (by omega), tl U hU j (by omega) (by omega), tl U hU i (by omega) (by omega), gd_t (OS (isSl_t (i := j) (by omega)))]
            obtain ⟨y, y1, y2⟩ := S_isLike hG (isSl_t (i := j) (by omega)) (isSl_t (i := i) (by omega)) (nU j (by omega) (by omega)) (nU i (by omega) (by omega))
            refine Tr_bq y1 ?_
            rcases y2 with ⟨ey, e1⟩ | ⟨ey, e1⟩
            · have esl : slI x j = slI x i := SL_ext hG (hok j).1 (hok i).1 (hok j).2 (hok i).2 e1
              have hrg : RG x n w (if w = 0 then i - j else j) := Or.inl ⟨i, j, i1, by omega, by omega, by omega, ⟨esl.symm, hp⟩, fun i' j' a1 a2 a3 a4 => no i' j' a1 a2 a3 a4, rfl⟩
              rw [ey]
              refine Tr_f (by decide) ?_
              refine Tr_if (fun e3 => ?_) (fun e3 => ?_)
              · rw [if_pos e3] at hrg
                rw [w32_id (x := i - j) (by omega) (by omega)]
                exact Tr_ret ⟨hrg, hU, fU⟩
              · rw [if_neg e3] at hrg
                exact Tr_ret ⟨hrg, hU, fU⟩
            · rw [ey]
              refine Tr_t rfl ?_
              rw [w32_id (x := j + -2) (by omega) (by omega)]
              refine ihm (j + -2) (by omega) (by omega) (by omega) (by omega) (fun j' a1 a2 => ?_)
              by_cases z : j' = j
              · subst z; exact fun q => e1 (fun p _ _ => by rw [q.1])
              · by_cases z2 : j' = j - 1
                · exact fun q => by have := q.2; omega
                · exact hj j' (by omega) a2
        exact hm FU (i - 2) (by omega) (by omega) (by rw [FU_v]; omega) (by omega) (fun j' a1 a2 => fun q => by have := q.2; omega)
      rw [ecb]
      refine Tr_if (fun e => ?_) (fun e => ?_)
      · rw [if_pos e] at es
        refine hS Y2 hY2 fY2 (fun k k0 k1 => ?_)
        by_cases z : k = i
        · rw [z, es]; exact v1
        · exact nY2 k k0 (by omega)
      · rw [if_neg e] at es
        have hc1 : chg (xG x) (slI x (i - 1)) (cbS (ryI x (i - 1))) = 1 := by
          rcases cbS_ok (ryI x (i - 1)) with z | z
          · exact absurd z e
          · exact z
        rw [tl Y2 hY2 i (by omega) (by omega), gd_t (OS (isSl_t (i := i) (by omega)))]
        refine Tr_bnd (S_apply hG (hok (i - 1)).1 (isSl_t (i := i) (by omega)) v1 hc1) ?_
        rintro _ Y3 ⟨p1, p2⟩
        refine hS Y3 (dIt_tl hY2 (fun a ha => p2 a (by omega))) (frX_tr fY2 (fun a ha => p2 a (by omega))) (fun k k0 k1 => ?_)
        by_cases z : k = i
        · rw [z, es]; exact p1
        · exact dS_fr (p2 _ (by omega)) (p2 _ (by omega)) (nY2 k k0 (by omega))
  refine hl FU 1 V0 (by omega) (by omega) (by rw [FU_v]; omega) (dIt_tl h' (fun a ha => m2 a (by omega) (by omega))) (fun k k0 k1 => ?_) (fun a ha => m2 a (by omega) (by omega)) (fun i' j' a1 a2 => by omega)
  have : k = 0 := by omega
  subst this
  exact m1
