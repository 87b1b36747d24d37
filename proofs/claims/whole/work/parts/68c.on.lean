/-! the state that an image makes -/
def slF (T : Int → Int) : Nat → Int → SL → SL
  | 0, _, s => s
  | n + 1, p, s => slF T n (p + 1) (upI s.1 p (T (1 + 3 * p)), upI s.2.1 (T (1 + 3 * p)) (T (2 + 3 * p) % 2), upI s.2.2.1 (T (1 + 3 * p)) (T (2 + 3 * p) / 2), upI s.2.2.2 (T (1 + 3 * p)) (T (3 + 3 * p)))
def slS (T : Int → Int) (p : Int) (s : SL) : SL := (upI s.1 p (T (1 + 3 * p)), upI s.2.1 (T (1 + 3 * p)) (T (2 + 3 * p) % 2), upI s.2.2.1 (T (1 + 3 * p)) (T (2 + 3 * p) / 2), upI s.2.2.2 (T (1 + 3 * p)) (T (3 + 3 * p)))
theorem slF_e (T : Int → Int) (n : Nat) (p : Int) (s : SL) : slF T (n + 1) p s = slF T n (p + 1) (slS T p s) := rfl
theorem slF_k (T : Int → Int) : ∀ (n : Nat) (p : Int) (s : SL), (∀ q, (q < p ∨ p + n ≤ q) → sA (slF T n p s) q = sA s q) ∧ (∀ r, (∀ q, p ≤ q → q < p + n → T (1 + 3 * q) ≠ r) → sX (slF T n p s) r = sX s r ∧ sT (slF T n p s) r = sT s r ∧ sN (slF T n p s) r = sN s r) := by
  intro n
  induction n with
  | zero => intro p s; exact ⟨fun _ _ => rfl, fun _ _ => ⟨rfl, rfl, rfl⟩⟩
  | succ n ih =>
    intro p s
    rw [slF_e]
    obtain ⟨a, b⟩ := ih (p + 1) (slS T p s)
    refine ⟨fun q hq => ?_, fun r hr => ?_⟩
    · rw [a q (by omega)]
      exact upI_n _ _ (by omega)
    · have hp := hr p (by omega) (by omega)
      obtain ⟨b1, b2, b3⟩ := b r (fun q q0 q1 => hr q (by omega) (by omega))
      exact ⟨by rw [b1]; exact upI_n _ _ (Ne.symm hp), by rw [b2]; exact upI_n _ _ (Ne.symm hp), by rw [b3]; exact upI_n _ _ (Ne.symm hp)⟩
theorem slF_at (T : Int → Int) : ∀ (n : Nat) (p : Int) (s : SL), (∀ q q', p ≤ q → q < q' → q' < p + n → T (1 + 3 * q) ≠ T (1 + 3 * q')) → ∀ q, p ≤ q → q < p + n → sA (slF T n p s) q = T (1 + 3 * q) ∧ sX (slF T n p s) (T (1 + 3 * q)) = T (2 + 3 * q) % 2 ∧ sT (slF T n p s) (T (1 + 3 * q)) = T (2 + 3 * q) / 2 ∧ sN (slF T n p s) (T (1 + 3 * q)) = T (3 + 3 * q) := by
  intro n
  induction n with
  | zero => intro p s _ q a b; omega
  | succ n ih =>
    intro p s hd q q0 q1
    rw [slF_e]
    by_cases z : q = p
    · subst z
      obtain ⟨a, b⟩ := slF_k T n (q + 1) (slS T q s)
      obtain ⟨b1, b2, b3⟩ := b (T (1 + 3 * q)) (fun q' a1 a2 => Ne.symm (hd q q' (by omega) (by omega) (by omega)))
      rw [a q (by omega), b1, b2, b3]
      exact ⟨upI_s _ _ _, upI_s _ _ _, upI_s _ _ _, upI_s _ _ _⟩
    · exact ih (p + 1) (slS T p s) (fun a b c d e => hd a b (by omega) d (by omega)) q (by omega) (by omega)
theorem rlF_ok {G : GM} {T : Int → Int} : ∀ (n : Nat) (p : Int) (l : List Int), rlF G T n p l = 1 → (∀ q, p ≤ q → q < p + n → T (1 + 3 * q) < qR G ∧ T (1 + 3 * q) ∉ l ∧ plI G T q = 1) ∧ (∀ q q', p ≤ q → q < q' → q' < p + n → T (1 + 3 * q) ≠ T (1 + 3 * q')) := by
  intro n
  induction n with
  | zero => intro p l _; exact ⟨fun q a b => by omega, fun q q' a b c => by omega⟩
  | succ n ih =>
    intro p l h
    rw [rlF] at h
    by_cases z : T (1 + 3 * p) < qR G ∧ T (1 + 3 * p) ∉ l ∧ plI G T p = 1
    · rw [if_pos z] at h
      obtain ⟨a, b⟩ := ih (p + 1) _ h
      refine ⟨fun q q0 q1 => ?_, fun q q' q0 q1 q2 => ?_⟩
      · by_cases y : q = p
        · rw [y]; exact z
        · obtain ⟨a1, a2, a3⟩ := a q (by omega) (by omega)
          exact ⟨a1, fun m => a2 (List.mem_cons_of_mem _ m), a3⟩
      · by_cases y : q = p
        · obtain ⟨a1, a2, a3⟩ := a q' (by omega) (by omega)
          rw [y]
          exact fun e => a2 (by rw [← e]; exact List.mem_cons_self)
        · exact b q q' (by omega) q1 (by omega)
    · rw [if_neg z] at h; exact absurd h (by decide)
/-- what holds of a tape that is an image -/
def tpO (G : GM) (T : Int → Int) : Prop := (∀ q, 0 ≤ q → q < qR G → 0 ≤ T (1 + 3 * q) ∧ T (1 + 3 * q) < qR G ∧ 0 ≤ T (2 + 3 * q) ∧ T (2 + 3 * q) ≤ 3 ∧ 0 ≤ T (3 + 3 * q) ∧ T (3 + 3 * q) ≤ 3 ∧ (hasN G (T (1 + 3 * q)) → 1 ≤ T (3 + 3 * q)) ∧ (¬ hasN G (T (1 + 3 * q)) → T (3 + 3 * q) = 0)) ∧ (∀ q q', 0 ≤ q → q < q' → q' < qR G → T (1 + 3 * q) ≠ T (1 + 3 * q'))
theorem tpO_of {G : GM} {T : Int → Int} (hG : GOK G) (hb : ∀ i, 0 ≤ i → i < 8 + 3 * qR G → 0 ≤ T i ∧ T i ≤ 255) (h : rlF G T (qR G).toNat 0 [] = 1) : tpO G T := by
  have hR := hG.2.2.1
  obtain ⟨a, b⟩ := rlF_ok (qR G).toNat 0 [] h
  refine ⟨fun q q0 q1 => ?_, fun q q' q0 q1 q2 => b q q' q0 q1 (by omega)⟩
  obtain ⟨a1, a2, a3⟩ := a q q0 (by omega)
  have t1 := hb (1 + 3 * q) (by omega) (by omega)
  have t2 := hb (2 + 3 * q) (by omega) (by omega)
  have t3 := hb (3 + 3 * q) (by omega) (by omega)
  obtain ⟨e0, e1, e2, e3⟩ := qN_k hG t1.1 a1
  unfold plI at a3
  by_cases y : (qE G (T (1 + 3 * q)) = 0 ∧ T (2 + 3 * q) ≤ 3 ∧ ((qN G (T (1 + 3 * q)) = 0 ∧ T (3 + 3 * q) = 0) ∨ (qN G (T (1 + 3 * q)) ≠ 0 ∧ 1 ≤ T (3 + 3 * q) ∧ T (3 + 3 * q) ≤ 3))) ∨ (qE G (T (1 + 3 * q)) ≠ 0 ∧ T (1 + 3 * q) = q ∧ T (2 + 3 * q) = 0 ∧ T (3 + 3 * q) = qN G (T (1 + 3 * q)))
  · refine ⟨t1.1, a1, t2.1, by omega, t3.1, by omega, fun hn => ?_, fun hn => ?_⟩
    · have := e3.mp hn; omega
    · have : qN G (T (1 + 3 * q)) = 0 := by
        by_cases z : qN G (T (1 + 3 * q)) = 0
        · exact z
        · exact absurd (e3.mpr z) hn
      omega
  · rw [if_neg y] at a3; exact absurd a3 (by decide)
theorem slF_ok {G : GM} {T : Int → Int} {s : SL} (hG : GOK G) (hs : SOK G s) (hn : SNM G s) (h : tpO G T) : SOK G (slF T (qR G).toNat 0 s) ∧ SNM G (slF T (qR G).toNat 0 s) := by
  have hR := hG.2.2.1
  have hat := slF_at T (qR G).toNat 0 s (fun q q' a b c => h.2 q q' a b (by omega))
  obtain ⟨k1, k2⟩ := slF_k T (qR G).toNat 0 s
  refine ⟨⟨fun p p0 p1 => ?_, fun p q p0 p1 q0 q1 e => ?_, fun r r0 r1 => ?_⟩, fun i hi => ?_⟩
  · rw [(hat p p0 (by omega)).1]
    have := h.1 p p0 p1
    exact ⟨this.1, this.2.1⟩
  · rw [(hat p p0 (by omega)).1, (hat q q0 (by omega)).1] at e
    by_cases z : p < q
    · exact absurd e (h.2 p q p0 z q1)
    · by_cases z2 : q < p
      · exact absurd e.symm (h.2 q p q0 z2 p1)
      · omega
  · by_cases c : ∃ q, 0 ≤ q ∧ q < qR G ∧ T (1 + 3 * q) = r
    · obtain ⟨q, q0, q1, e⟩ := c
      have a := hat q q0 (by omega)
      have b := h.1 q q0 q1
      rw [e] at a b
      rw [a.2.1, a.2.2.1, a.2.2.2]
      exact ⟨by omega, by omega, fun hh => ⟨b.2.2.2.2.2.2.1 hh, b.2.2.2.2.2.1⟩, b.2.2.2.2.2.2.2⟩
    · obtain ⟨b1, b2, b3⟩ := k2 r (fun q q0 q1 e => c ⟨q, q0, by omega, e⟩)
      rw [b1, b2, b3]
      exact hs.2.2 r r0 r1
  · obtain ⟨n1, n2, n3, n4⟩ := hn i hi
    obtain ⟨b1, b2, b3⟩ := k2 i (fun q q0 q1 e => by have := h.1 q q0 (by omega); omega)
    rw [k1 i (by omega), b1, b2, b3]
    exact ⟨n1, n2, n3, n4⟩
def onN (x : ST) (k : Int) : Int := if k = 0 then 256 * xT x (1 + 3 * qR (xG x)) + xT x (2 + 3 * qR (xG x)) else if k = 1 then 0 else if k = 10 then xT x (3 + 3 * qR (xG x)) else if k = 11 then xT x (4 + 3 * qR (xG x)) else if k = 12 then xT x (5 + 3 * qR (xG x)) else if k = 13 then xT x (6 + 3 * qR (xG x)) else xN x k
def onY (x : ST) : ST := (x.1, slF (xT x) (qR (xG x)).toNat 0 (xS x), onN x, x.2.2.2)
def xOn (x : ST) : ST := if okI x = 1 then uN (xAn (onY x)) 6 0 else uN (xRf x 5) 6 0
theorem onN_n (x : ST) {k : Int} (h : k ≠ 0 ∧ k ≠ 1 ∧ k ≠ 10 ∧ k ≠ 11 ∧ k ≠ 12 ∧ k ≠ 13) : xN (onY x) k = xN x k := by
  show onN x k = _
  unfold onN
  rw [if_neg h.1, if_neg h.2.1, if_neg h.2.2.1, if_neg h.2.2.2.1, if_neg h.2.2.2.2.1, if_neg h.2.2.2.2.2]
theorem uN_cm (x : ST) {k j : Int} (a b : Int) (h : k ≠ j) : uN (uN x k a) j b = uN (uN x j b) k a := by
  unfold uN
  have : upI (upI x.2.2.1 k a) j b = upI (upI x.2.2.1 j b) k a := by
    funext i
    by_cases z : i = j
    · rw [z, upI_s, upI_n _ _ (Ne.symm h), upI_s]
    · by_cases y : i = k
      · rw [y, upI_n _ _ h, upI_s, upI_s]
      · rw [upI_n _ _ z, upI_n _ _ y, upI_n _ _ y, upI_n _ _ z]
  simp only [this]
theorem xAn_6 (y : ST) : xAn (uN y 6 0) = uN (xAn y) 6 0 := by
  unfold xAn
  rw [uN_n y _ (by decide)]
  rw [uN_cm (uN (uN y 3 (beg (xG y) (xN y 0))) 4 0) (k := 5) (j := 6) (-1) 0 (by decide), uN_cm (uN y 3 (beg (xG y) (xN y 0))) (k := 4) (j := 6) 0 0 (by decide), uN_cm y (k := 3) (j := 6) _ 0 (by decide)]
  rfl
theorem okI_01 (x : ST) : okI x = 0 ∨ okI x = 1 := by
  unfold okI
  by_cases z : qF (xG x) ≠ 0 ∧ xN x 6 = 8 + 3 * qR (xG x) ∧ xT x 0 = qR (xG x) ∧ xT x (7 + 3 * qR (xG x)) = chkF (xT x) (7 + 3 * qR (xG x)).toNat 0 37 ∧ rlF (xG x) (xT x) (qR (xG x)).toNat 0 [] = 1 ∧ pyI (xT x) (qR (xG x)) = 1
  · rw [if_pos z]; exact Or.inr rfl
  · rw [if_neg z]; exact Or.inl rfl
theorem okI_o {x : ST} (h : okI x = 1) : qF (xG x) ≠ 0 ∧ xN x 6 = 8 + 3 * qR (xG x) ∧ xT x 0 = qR (xG x) ∧ xT x (7 + 3 * qR (xG x)) = chkF (xT x) (7 + 3 * qR (xG x)).toNat 0 37 ∧ rlF (xG x) (xT x) (qR (xG x)).toNat 0 [] = 1 ∧ pyI (xT x) (qR (xG x)) = 1 := by
  unfold okI at h
  by_cases z : qF (xG x) ≠ 0 ∧ xN x 6 = 8 + 3 * qR (xG x) ∧ xT x 0 = qR (xG x) ∧ xT x (7 + 3 * qR (xG x)) = chkF (xT x) (7 + 3 * qR (xG x)).toNat 0 37 ∧ rlF (xG x) (xT x) (qR (xG x)).toNat 0 [] = 1 ∧ pyI (xT x) (qR (xG x)) = 1
  · exact z
  · rw [if_neg z] at h; exact absurd h (by decide)
theorem R_on {x : ST} {V : ASt} (hG : GOK (xG x)) (hs : SOK (xG x) (xS x)) (h : rI x V) (h6 : 0 ≤ xN x 6 ∧ xN x 6 ≤ 1800) (hT : ∀ i, 0 ≤ i → i < xN x 6 → 0 ≤ xT x i ∧ xT x i ≤ 255) (h4 : 0 ≤ xN x 4) (hb : 0 ≤ xN x 25 ∧ xN x 25 ≤ 100000) : Tr (f_M_on S0 V 142) (fun r U => r = okI x ∧ rI (xOn x) U ∧ frM V U) := by
  have hR := hG.2.2.1
  have h' := h
  obtain ⟨b, g1, g2, g3, g4, g5, g6, g7, g8, -⟩ := h
  unfold f_M_on
  rw [gd_t O_142, g5.2.2.2.2.2.2.1]
  refine Tr_set (fun V1 e1 n1 => ?_)
  have r1 : rI (uN x 6 0) V1 := rI_tp h' rfl rfl rfl rfl (fun k hk => uN_n x _ hk) (fun a ha _ => n1 a (by unfold rK at ha; omega)) (fun k _ hk => by rw [e1, upI_n _ _ hk]) (by rw [e1, upI_s, uN_s]) (fun i i0 i1 => by rw [uN_s] at i1; omega)
  have gV1 : rG (xG x) b V1 := rG_fr3 (by rw [e1, upI_n _ _ (by decide)]) (fun a a1 a2 => n1 a (by omega)) g1
  have hT1 : ∀ i, 0 ≤ i → i < xN x 6 → V1 143 i = xT x i ∧ 0 ≤ xT x i ∧ xT x i ≤ 255 := fun i i0 i1 => ⟨by rw [n1 143 (by decide)]; exact g8 i i0 i1, hT i i0 i1⟩
  refine Tr_bq (M_isWhole hG gV1 h6 hT1) ?_
  unfold xOn
  rcases okI_01 x with c | c
  · rw [c, if_neg (show ¬ ((0 : Int) = 1) by decide)]
    refine Tr_t rfl ?_
    have e25 : xN (uN x 6 0) (20 + 5) = xN x 25 := uN_n x _ (by decide)
    refine Tr_bnd (R_refuses r1 (k := 5) (by decide) (by rw [e25]; exact hb)) ?_
    rintro r U ⟨u1, u2, u3⟩
    rw [u1]
    refine Tr_t (by decide) (Tr_ret ⟨rfl, ?_, frM_tr (fun a ha => n1 a (by omega)) u3⟩)
    have ee : xRf (uN x 6 0) 5 = uN (xRf x 5) 6 0 := by
      unfold xRf
      rw [e25, show (20 : Int) + 5 = 25 from rfl]
      exact uN_cm x (k := 6) (j := 25) 0 _ (by decide)
    rw [ee] at u2
    exact u2
  · obtain ⟨o1, o2, o3, o4, o5, o6⟩ := okI_o c
    have hb' : ∀ i, 0 ≤ i → i < 8 + 3 * qR (xG x) → V1 143 i = xT x i ∧ 0 ≤ xT x i ∧ xT x i ≤ 255 := fun i i0 i1 => hT1 i i0 (by omega)
    have hO := tpO_of hG (fun i i0 i1 => (hb' i i0 i1).2) o5
    rw [c, if_pos rfl]
    refine Tr_f (by decide) ?_
    have hl : ∀ (n : Nat) (p : Int) (W : ASt) (s : SL), 0 ≤ p → p ≤ qR (xG x) → qR (xG x) - p < n → (∀ a, a ≠ 169 → a ≠ 170 → a ≠ 171 → a ≠ 172 → W a = V1 a) → rS (xG x) s W → slF (xT x) (qR (xG x) - p).toNat p s = slF (xT x) (qR (xG x)).toNat 0 (xS x) →
        Tr (b_M_on_L34 S0 142 n W p) (fun r U => r = 1 ∧ rI (uN (xAn (onY x)) 6 0) U ∧ frM V U) := by
      intro n
      induction n with
      | zero => intro p W s h1 h2 h3; omega
      | succ n ih =>
        intro p W s p0 p1 hn fW hW hsl
        have gW : rG (xG x) b W := rG_fr (fun a a1 a2 => fW a (by omega) (by omega) (by omega) (by omega)) gV1
        have e43 : W 143 = V1 143 := fW 143 (by decide) (by decide) (by decide) (by decide)
        rw [b_M_on_L34]
        refine Tr_bq (M_rulesAll gW) ?_
        refine Tr_if (fun d => ?_) (fun d => ?_)
        · rw [show (qR (xG x) - p).toNat = 0 by omega, slF] at hsl
          refine Tr_bq (M_rulesAll gW) ?_
          have u1 := hb' (1 + 3 * qR (xG x)) (by omega) (by omega)
          have u2 := hb' (2 + 3 * qR (xG x)) (by omega) (by omega)
          have u3 := hb' (3 + 3 * qR (xG x)) (by omega) (by omega)
          have u4 := hb' (4 + 3 * qR (xG x)) (by omega) (by omega)
          have u5 := hb' (5 + 3 * qR (xG x)) (by omega) (by omega)
          have u6 := hb' (6 + 3 * qR (xG x)) (by omega) (by omega)
          have f1 : w32 (1 + w32 (3 * qR (xG x))) = 1 + 3 * qR (xG x) := by rw [w32_id (x := 3 * qR (xG x)) (by omega) (by omega), w32_id (by omega) (by omega)]
          have f2 : w32 (1 + 3 * qR (xG x) + 1) = 2 + 3 * qR (xG x) := by rw [w32_id (by omega) (by omega)]; omega
          have f3 : w32 (1 + 3 * qR (xG x) + 2) = 3 + 3 * qR (xG x) := by rw [w32_id (by omega) (by omega)]; omega
          have f4 : w32 (1 + 3 * qR (xG x) + 3) = 4 + 3 * qR (xG x) := by rw [w32_id (by omega) (by omega)]; omega
          have f5 : w32 (1 + 3 * qR (xG x) + 4) = 5 + 3 * qR (xG x) := by rw [w32_id (by omega) (by omega)]; omega
          have f6 : w32 (1 + 3 * qR (xG x) + 5) = 6 + 3 * qR (xG x) := by rw [w32_id (by omega) (by omega)]; omega
          rw [f1, f2, f3, f4, f5, f6, F_142_0, A_143, gd_in (by omega) (by omega), A_143, gd_in (by omega) (by omega), e43, u1.1, u2.1, w32_id (x := 256 * xT x (1 + 3 * qR (xG x))) (by omega) (by omega), w32_id (x := 256 * xT x (1 + 3 * qR (xG x)) + xT x (2 + 3 * qR (xG x))) (by omega) (by omega)]
          refine Tr_set (fun W1 a1 m1 => ?_)
          rw [A_143, gd_in (by omega) (by omega), F_142_49, A_173, gd_in (by omega) (by omega), m1 143 (by decide), e43, u3.1]
          refine Tr_set (fun W2 a2 m2 => ?_)
          rw [A_143, gd_in (by omega) (by omega), A_173, gd_in (by omega) (by omega), m2 143 (by decide), m1 143 (by decide), e43, u4.1]
          refine Tr_set (fun W3 a3 m3 => ?_)
          rw [A_143, gd_in (by omega) (by omega), F_142_50, A_174, gd_in (by omega) (by omega), m3 143 (by decide), m2 143 (by decide), m1 143 (by decide), e43, u5.1]
          refine Tr_set (fun W4 a4 m4 => ?_)
          rw [A_143, gd_in (by omega) (by omega), A_174, gd_in (by omega) (by omega), m4 143 (by decide), m3 143 (by decide), m2 143 (by decide), m1 143 (by decide), e43, u6.1]
          refine Tr_set (fun W5 a5 m5 => ?_)
          refine Tr_set (fun W6 a6 m6 => ?_)
          have fW6 : ∀ a, a ≠ 142 → a ≠ 173 → a ≠ 174 → W6 a = W a := fun a c1 c2 c3 => by rw [m6 a c1, m5 a c3, m4 a c3, m3 a c2, m2 a c2, m1 a c1]
          have e142 : W6 142 = upI (upI (W 142) 48 (256 * xT x (1 + 3 * qR (xG x)) + xT x (2 + 3 * qR (xG x)))) 65 0 := by rw [a6, m5 142 (by decide), m4 142 (by decide), m3 142 (by decide), m2 142 (by decide), a1]
          have e173 : W6 173 = upI (upI (W 173) 0 (xT x (3 + 3 * qR (xG x)))) 1 (xT x (4 + 3 * qR (xG x))) := by rw [m6 173 (by decide), m5 173 (by decide), m4 173 (by decide), a3, a2, m1 173 (by decide)]
          have e174 : W6 174 = upI (upI (W 174) 0 (xT x (5 + 3 * qR (xG x)))) 1 (xT x (6 + 3 * qR (xG x))) := by rw [m6 174 (by decide), a5, a4, m3 174 (by decide), m2 174 (by decide), m1 174 (by decide)]
          have hS0 : rI (uS (uN x 6 0) s) W := rI_uS r1 fW hW
          obtain ⟨bb, q1, q2, q3, q4, q5, q6, q7, q8, q9, q10, q11⟩ := id hS0
          have r6 : rI (uN (onY x) 6 0) W6 := by
            refine rI_mk (x' := uN (onY x) 6 0) hS0 rfl ?_ (fun a ha => fW6 a (by omega) (by omega) (by omega)) (by rw [e142, upI_n _ _ (by decide), upI_n _ _ (by decide)]) ?_ ⟨?_, fun k k0 k1 => ?_⟩ (fun i i0 i1 => by rw [uN_s] at i1; omega) ?_ ⟨?_, ?_, ?_⟩
            · exact hsl.symm
            · have z0 : xN (uN (onY x) 6 0) 0 = 256 * xT x (1 + 3 * qR (xG x)) + xT x (2 + 3 * qR (xG x)) := by rw [uN_n _ _ (by decide)]; rfl
              have z1 : xN (uN (onY x) 6 0) 1 = 0 := by rw [uN_n _ _ (by decide)]; rfl
              have zz : ∀ k, k ≠ 0 ∧ k ≠ 1 ∧ k ≠ 10 ∧ k ≠ 11 ∧ k ≠ 12 ∧ k ≠ 13 → k ≠ 6 → xN (uN (onY x) 6 0) k = xN (uS (uN x 6 0) s) k := fun k hk h6 => by
                rw [uN_n _ _ h6, onN_n x hk]
                exact (uN_n x _ h6).symm
              unfold rSc
              rw [z0, z1, zz 2 (by decide) (by decide), zz 3 (by decide) (by decide), zz 4 (by decide) (by decide), zz 5 (by decide) (by decide), zz 7 (by decide) (by decide), zz 8 (by decide) (by decide), zz 9 (by decide) (by decide), e142]
              exact ⟨rfl, rfl, q5.2.2.1, q5.2.2.2.1, q5.2.2.2.2.1, q5.2.2.2.2.2.1, q5.2.2.2.2.2.2.1, q5.2.2.2.2.2.2.2⟩
            · rw [e173, e174, uN_n _ _ (by decide), uN_n _ _ (by decide), uN_n _ _ (by decide), uN_n _ _ (by decide)]
              exact ⟨rfl, rfl, rfl, rfl⟩
            · rw [fW6 166 (by decide) (by decide) (by decide), q7 k k0 k1, uN_n _ _ (by omega), onN_n x (by omega)]
              exact uN_n x _ (by omega)
            · rw [uN_n _ _ (by decide), onN_n x (by decide), fW6 197 (by decide) (by decide) (by decide)]
              exact q9
            · intro i i0 i1
              rw [uN_n _ _ (by decide)] at i1
              have : xN (onY x) 1 = 0 := rfl
              omega
            · rw [uN_n _ _ (by decide), onN_n x (by decide), fW6 191 (by decide) (by decide) (by decide), fW6 192 (by decide) (by decide) (by decide)]
              exact q11.1
            · rw [fW6 186 (by decide) (by decide) (by decide), fW6 187 (by decide) (by decide) (by decide)]
              exact q11.2
          refine Tr_bnd (R_anews (x := uN (onY x) 6 0) hG r6 ?_ (fun e => absurd e o1)) ?_
          · rw [uN_n _ _ (by decide)]
            show 0 ≤ 256 * xT x (1 + 3 * qR (xG x)) + xT x (2 + 3 * qR (xG x))
            omega
          rintro r3 Z ⟨z1, z2, z3⟩
          rw [z1, uN_n _ _ (by decide), onN_n x (by decide)]
          rw [xAn_6] at z2
          exact Tr_f (by omega) (Tr_ret ⟨rfl, z2, frM_tr (fun a ha => by rw [fW6 a (by omega) (by omega) (by omega), fW a (by omega) (by omega) (by omega) (by omega), n1 a (by omega)]) z3⟩)
        · have t1 := hb' (1 + 3 * p) (by omega) (by omega)
          have t2 := hb' (2 + 3 * p) (by omega) (by omega)
          have t3 := hb' (3 + 3 * p) (by omega) (by omega)
          have hp := hO.1 p p0 (by omega)
          rw [show (qR (xG x) - p).toNat = (qR (xG x) - (p + 1)).toNat + 1 by omega, slF_e] at hsl
          have f1 : w32 (1 + w32 (3 * p)) = 1 + 3 * p := by rw [w32_id (x := 3 * p) (by omega) (by omega), w32_id (by omega) (by omega)]
          have f2 : w32 (2 + w32 (3 * p)) = 2 + 3 * p := by rw [w32_id (x := 3 * p) (by omega) (by omega), w32_id (by omega) (by omega)]
          have f3 : w32 (3 + w32 (3 * p)) = 3 + 3 * p := by rw [w32_id (x := 3 * p) (by omega) (by omega), w32_id (by omega) (by omega)]
          rw [f1, f2, F_142_0, A_143, gd_in (by omega) (by omega), F_142_44, A_169, gd_in (by omega) (by omega), e43, t1.1]
          refine Tr_set (fun W1 a1 m1 => ?_)
          rw [A_143, gd_in (by omega) (by omega), m1 143 (by decide), e43, t2.1, tmod_e (by omega)]
          have hJ : Tr (b_M_on_J86 S0 (b_M_on_L34 S0 142 n) W1 142 p (xT x (1 + 3 * p)) (aF S0 142 45) (xT x (1 + 3 * p)) (xT x (2 + 3 * p) % 2)) (fun r U => r = 1 ∧ rI (uN (xAn (onY x)) 6 0) U ∧ frM V U) := by
            unfold b_M_on_J86
            rw [f2, F_142_45, A_170, gd_in (by omega) (by omega), zb_t (show xT x (2 + 3 * p) % 2 = 0 ∨ xT x (2 + 3 * p) % 2 = 1 by omega)]
            refine Tr_set (fun W2 a2 m2 => ?_)
            rw [F_142_0, A_143, gd_in (by omega) (by omega), m2 143 (by decide), m1 143 (by decide), e43, t2.1]
            have hJ2 : Tr (b_M_on_J111 S0 (b_M_on_L34 S0 142 n) W2 142 p (xT x (1 + 3 * p)) (aF S0 142 46) (xT x (1 + 3 * p)) (xT x (2 + 3 * p) / 2)) (fun r U => r = 1 ∧ rI (uN (xAn (onY x)) 6 0) U ∧ frM V U) := by
              unfold b_M_on_J111
              rw [f3, F_142_46, A_171, gd_in (by omega) (by omega), zb_t (show xT x (2 + 3 * p) / 2 = 0 ∨ xT x (2 + 3 * p) / 2 = 1 by omega)]
              refine Tr_set (fun W3 a3 m3 => ?_)
              rw [F_142_0, A_143, gd_in (by omega) (by omega), F_142_47, A_172, gd_in (by omega) (by omega), m3 143 (by decide), m2 143 (by decide), m1 143 (by decide), e43, t3.1]
              refine Tr_set (fun W4 a4 m4 => ?_)
              rw [w32_id (x := p + 1) (by omega) (by omega)]
              refine ih (p + 1) W4 (slS (xT x) p s) (by omega) (by omega) (by omega) (fun a c1 c2 c3 c4 => by rw [m4 a c4, m3 a c3, m2 a c2, m1 a c1, fW a c1 c2 c3 c4]) (fun k k0 k1 => ?_) hsl
              have q1 : W4 169 = upI (W 169) p (xT x (1 + 3 * p)) := by rw [m4 169 (by decide), m3 169 (by decide), m2 169 (by decide), a1]
              have q2 : W4 170 = upI (W 170) (xT x (1 + 3 * p)) (xT x (2 + 3 * p) % 2) := by rw [m4 170 (by decide), m3 170 (by decide), a2, m1 170 (by decide)]
              have q3 : W4 171 = upI (W 171) (xT x (1 + 3 * p)) (xT x (2 + 3 * p) / 2) := by rw [m4 171 (by decide), a3, m2 171 (by decide), m1 171 (by decide)]
              have q4 : W4 172 = upI (W 172) (xT x (1 + 3 * p)) (xT x (3 + 3 * p)) := by rw [a4, m3 172 (by decide), m2 172 (by decide), m1 172 (by decide)]
              have hk := hW k k0 k1
              rw [q1, q2, q3, q4]
              refine ⟨?_, ?_, ?_, ?_⟩
              · show _ = upI s.1 p (xT x (1 + 3 * p)) k
                unfold upI
                by_cases z : k = p
                · rw [if_pos z, if_pos z]
                · rw [if_neg z, if_neg z]; exact hk.1
              · show _ = upI s.2.1 (xT x (1 + 3 * p)) (xT x (2 + 3 * p) % 2) k
                unfold upI
                by_cases z : k = xT x (1 + 3 * p)
                · rw [if_pos z, if_pos z]
                · rw [if_neg z, if_neg z]; exact hk.2.1
              · show _ = upI s.2.2.1 (xT x (1 + 3 * p)) (xT x (2 + 3 * p) / 2) k
                unfold upI
                by_cases z : k = xT x (1 + 3 * p)
                · rw [if_pos z, if_pos z]
                · rw [if_neg z, if_neg z]; exact hk.2.2.1
              · show _ = upI s.2.2.2 (xT x (1 + 3 * p)) (xT x (3 + 3 * p)) k
                unfold upI
                by_cases z : k = xT x (1 + 3 * p)
                · rw [if_pos z, if_pos z]
                · rw [if_neg z, if_neg z]; exact hk.2.2.2
            refine Tr_if (fun e => ?_) (fun e => ?_)
            · rw [show xT x (2 + 3 * p) / 2 = 0 by omega] at hJ2; exact hJ2
            · rw [show xT x (2 + 3 * p) / 2 = 1 by omega] at hJ2; exact hJ2
          refine Tr_if (fun e => ?_) (fun e => ?_)
          · rw [e] at hJ; exact hJ
          · rw [show xT x (2 + 3 * p) % 2 = 0 by omega] at hJ; exact hJ
    have g4' : rS (xG x) (xS x) V1 := rS_fr (fun a a1 a2 => n1 a (by omega)) g4
    exact hl FU 0 V1 (xS x) (by omega) (by omega) (by rw [FU_v]; omega) (fun _ _ _ _ _ => rfl) g4' (by rw [show qR (xG x) - 0 = qR (xG x) by omega])
theorem D_on {x : ST} {t : Int} {V : ASt} (hG : GOK (xG x)) (hs : SOK (xG x) (xS x)) (hn : SNM (xG x) (xS x)) (h : dIt x t V) (hl40 : xN x 1 ≤ 40) (h6 : 0 ≤ xN x 6 ∧ xN x 6 ≤ 1800) (hT : ∀ i, 0 ≤ i → i < xN x 6 → 0 ≤ xT x i ∧ xT x i ≤ 255) (hb : 0 ≤ xN x 25 ∧ xN x 25 ≤ 100000) : Tr (f_SG_on S0 V 0) (fun r U => r = okI x ∧ dIt (xOn x) t U ∧ frX V U) := by
  have hR := hG.2.2.1
  have h' := h
  obtain ⟨h0, k1, k2, k3, k4, k5, k6, k7, k8, k9, k10, k11, k12, k13, k14⟩ := h
  have htm := h0
  unfold isGm at htm
  have ha : isSl 41 := Or.inl rfl
  have hJ : ∀ (y : ST) (W : ASt) (r : Int), dIt y t W → xN y 1 ≤ 40 → (r = 0 ∨ r = 1) → frX V W → Tr (b_SG_on_J21 S0 W 0 r) (fun r' U => r' = r ∧ dIt (uN y 6 0) t U ∧ frX V U) := by
    intro y W r hy yl hr fW
    unfold b_SG_on_J21
    rw [F_0_0, gd_t O_1]
    refine Tr_set (fun V1 e1 n1 => ?_)
    rw [zb_t hr]
    exact Tr_ret ⟨rfl, dIt_tp hy rfl rfl rfl rfl yl (fun k hk => uN_n y _ hk) (fun a a1 _ _ => n1 a a1) ⟨by rw [e1, upI_s, uN_s], fun i i0 i1 => by rw [uN_s] at i1; omega⟩, frX_tr fW (fun a ha => n1 a (by omega))⟩
  unfold f_SG_on xOn
  rw [gd_t O_0]
  refine Tr_bq (C_isImage hG h' h6 hT) ?_
  rcases okI_01 x with c | c
  · rw [c, if_neg (show ¬ ((0 : Int) = 1) by decide)]
    refine Tr_t rfl ?_
    refine Tr_bnd (D_refuse h' (k := 5) (by decide) hb) ?_
    rintro _ U ⟨u1, u2⟩
    refine hJ _ U 0 u1 ?_ (Or.inl rfl) u2
    unfold xRf
    rw [uN_n _ _ (by decide)]; exact hl40
  · obtain ⟨o1, o2, o3, o4, o5, o6⟩ := okI_o c
    have hO := tpO_of hG (fun i i0 i1 => hT i i0 (by omega)) o5
    have hok := slF_ok hG hs hn hO
    rw [c, if_pos rfl]
    refine Tr_f (by decide) ?_
    have hl : ∀ (n : Nat) (p : Int) (W : ASt), 0 ≤ p → p ≤ qR (xG x) → qR (xG x) - p < n → (∀ a, a ≠ 42 → W a = V a) → (∀ q, 0 ≤ q → q < p → W 42 q = 16 * xT x (1 + 3 * q) + 4 * xT x (3 + 3 * q) + xT x (2 + 3 * q)) →
        Tr (b_SG_takeImage_L2 S0 0 n W p) (fun _ U => dIt (xAn (onY x)) t U ∧ frX V U) := by
      intro n
      induction n with
      | zero => intro p W h1 h2 h3; omega
      | succ n ih =>
        intro p W p0 p1 hn' fW kW
        have tW : dTp x W := dTp_k (by rw [fW 1 (by decide)]) (fW 2 (by decide)) k12
        have c0 : W 0 = V 0 := fW 0 (by decide)
        have gW : gI (xG x) t W := gI_k (fun o a b => fW _ (by omega)) k2
        rw [b_SG_takeImage_L2, c0, k1.1, gd_t (OG h0), gW.1.2.2.1]
        refine Tr_if (fun d => ?_) (fun d => ?_)
        · have f1 : w32 (1 + w32 (3 * qR (xG x))) = 1 + 3 * qR (xG x) := by rw [w32_id (x := 3 * qR (xG x)) (by omega) (by omega), w32_id (by omega) (by omega)]
          have f2 : w32 (1 + 3 * qR (xG x) + 1) = 2 + 3 * qR (xG x) := by rw [w32_id (by omega) (by omega)]; omega
          have f3 : w32 (1 + 3 * qR (xG x) + 2) = 3 + 3 * qR (xG x) := by rw [w32_id (by omega) (by omega)]; omega
          have f4 : w32 (1 + 3 * qR (xG x) + 3) = 4 + 3 * qR (xG x) := by rw [w32_id (by omega) (by omega)]; omega
          have f5 : w32 (1 + 3 * qR (xG x) + 4) = 5 + 3 * qR (xG x) := by rw [w32_id (by omega) (by omega)]; omega
          have f6 : w32 (1 + 3 * qR (xG x) + 5) = 6 + 3 * qR (xG x) := by rw [w32_id (by omega) (by omega)]; omega
          have at' : ∀ Z, dTp x Z → ∀ k, 0 ≤ k → k < xN x 6 → f_Bytes_at S0 Z 1 k = some (xT x k, Z) := fun Z hZ k a b => by rw [Bt_at hZ h6 k, if_pos ⟨a, b⟩]
          have tk : ∀ Z : ASt, (∀ a, a = 1 ∨ a = 2 → Z a = W a) → dTp x Z := fun Z hZ => dTp_k (by rw [hZ 1 (by omega)]) (hZ 2 (by omega)) tW
          have u1 := hT (1 + 3 * qR (xG x)) (by omega) (by omega)
          have u2 := hT (2 + 3 * qR (xG x)) (by omega) (by omega)
          rw [f1, f2, f3, f4, f5, f6, F_0_0, gd_t O_1]
          refine Tr_bq (at' W tW _ (by omega) (by omega)) (Tr_bq (at' W tW _ (by omega) (by omega)) ?_)
          rw [w32_id (x := xT x (1 + 3 * qR (xG x)) * 256) (by omega) (by omega), w32_id (by omega) (by omega), show xT x (1 + 3 * qR (xG x)) * 256 + xT x (2 + 3 * qR (xG x)) = 256 * xT x (1 + 3 * qR (xG x)) + xT x (2 + 3 * qR (xG x)) by omega]
          refine Tr_set (fun W1 a1 m1 => ?_)
          refine Tr_bq (at' W1 (tk W1 (fun a ha => m1 a (by omega))) _ (by omega) (by omega)) ?_
          rw [F_0_16, A_112, gd_in (by omega) (by omega)]
          refine Tr_set (fun W2 a2 m2 => ?_)
          refine Tr_bq (at' W2 (tk W2 (fun a ha => by rw [m2 a (by omega), m1 a (by omega)])) _ (by omega) (by omega)) ?_
          rw [A_112, gd_in (by omega) (by omega)]
          refine Tr_set (fun W3 a3 m3 => ?_)
          refine Tr_bq (at' W3 (tk W3 (fun a ha => by rw [m3 a (by omega), m2 a (by omega), m1 a (by omega)])) _ (by omega) (by omega)) ?_
          rw [F_0_15, A_111, gd_in (by omega) (by omega)]
          refine Tr_set (fun W4 a4 m4 => ?_)
          refine Tr_bq (at' W4 (tk W4 (fun a ha => by rw [m4 a (by omega), m3 a (by omega), m2 a (by omega), m1 a (by omega)])) _ (by omega) (by omega)) ?_
          rw [A_111, gd_in (by omega) (by omega)]
          refine Tr_set (fun W5 a5 m5 => ?_)
          rw [F_0_6, gd_t O_47]
          refine Tr_set (fun W6 a6 m6 => ?_)
          have fW6 : ∀ a, a ≠ 0 → a ≠ 112 → a ≠ 111 → a ≠ 47 → W6 a = W a := fun a c0 c1 c2 c3 => by rw [m6 a c3, m5 a c2, m4 a c2, m3 a c1, m2 a c1, m1 a c0]
          have fV6 : ∀ a, a ≠ 0 → a ≠ 112 → a ≠ 111 → a ≠ 47 → a ≠ 42 → W6 a = V a := fun a c0 c1 c2 c3 c4 => by rw [fW6 a c0 c1 c2 c3, fW a c4]
          have e0 : W6 0 = upI (V 0) 17 (256 * xT x (1 + 3 * qR (xG x)) + xT x (2 + 3 * qR (xG x))) := by rw [m6 0 (by decide), m5 0 (by decide), m4 0 (by decide), m3 0 (by decide), m2 0 (by decide), a1, c0]
          have e112 : W6 112 = upI (upI (V 112) 0 (xT x (3 + 3 * qR (xG x)))) 1 (xT x (4 + 3 * qR (xG x))) := by rw [m6 112 (by decide), m5 112 (by decide), m4 112 (by decide), a3, a2, m1 112 (by decide), fW 112 (by decide)]
          have e111 : W6 111 = upI (upI (V 111) 0 (xT x (5 + 3 * qR (xG x)))) 1 (xT x (6 + 3 * qR (xG x))) := by rw [m6 111 (by decide), a5, a4, m3 111 (by decide), m2 111 (by decide), m1 111 (by decide), fW 111 (by decide)]
          have e47 : W6 47 0 = 0 := by rw [a6, upI_s]
          have hp : dIp (onY x) t W6 := by
            refine ⟨h0, ?_, gI_k (fun o a b => fV6 _ (by omega) (by omega) (by omega) (by omega) (by omega)) k2, dL_k (fV6 _ (by omega) (by omega) (by omega) (by omega) (by omega)) k3, ⟨?_, fun q q0 q1 => ?_⟩, ?_, dWW_k (fV6 96 (by omega) (by omega) (by omega) (by omega) (by omega)) (fV6 97 (by omega) (by omega) (by omega) (by omega) (by omega)) (fV6 98 (by omega) (by omega) (by omega) (by omega) (by omega)) (fV6 101 (by omega) (by omega) (by omega) (by omega) (by omega)) k7, dWW_k (fV6 102 (by omega) (by omega) (by omega) (by omega) (by omega)) (fV6 103 (by omega) (by omega) (by omega) (by omega) (by omega)) (fV6 104 (by omega) (by omega) (by omega) (by omega) (by omega)) (fV6 107 (by omega) (by omega) (by omega) (by omega) (by omega)) k8, ⟨?_, fun i i0 i1 => ?_⟩, ?_, ?_, ?_, ?_⟩
            · unfold dA at *
              rw [e0]
              exact ⟨k1.1, k1.2.1, rfl⟩
            · rw [fV6 41 (by decide) (by decide) (by decide) (by decide) (by decide)]; exact k4.1
            · have hq := slF_at (xT x) (qR (xG x)).toNat 0 (xS x) (fun q q' a b c => hO.2 q q' a b (by omega)) q q0 (by have : q < qR (xG x) := q1; omega)
              have ht := hO.1 q q0 q1
              have : W6 (41 + 1) q = 16 * xT x (1 + 3 * q) + 4 * xT x (3 + 3 * q) + xT x (2 + 3 * q) := by
                rw [fW6 (41 + 1) (by decide) (by decide) (by decide) (by decide)]
                exact kW q q0 (by have : q < qR (xG x) := q1; omega)
              rw [this]
              show _ = pk (slF (xT x) (qR (xG x)).toNat 0 (xS x)) q
              unfold pk
              rw [hq.1, hq.2.1, hq.2.2.1, hq.2.2.2]
              omega
            · have := k6.2.2
              unfold chR at *
              rw [fV6 62 (by decide) (by decide) (by decide) (by decide) (by decide)]; exact this
            · exact e47
            · have : xN (onY x) 1 = 0 := rfl
              omega
            · have := dSp_k (U := W6) (congrFun (fV6 43 (by decide) (by decide) (by decide) (by decide) (by decide)) 0) (fV6 44 (by decide) (by decide) (by decide) (by decide) (by decide)) (fV6 45 (by decide) (by decide) (by decide) (by decide) (by decide)) k10
              unfold dSp at *
              rw [onN_n x (by decide)]; exact this
            · unfold dTp at *
              rw [fV6 1 (by decide) (by decide) (by decide) (by decide) (by decide), fV6 2 (by decide) (by decide) (by decide) (by decide) (by decide), onN_n x (by decide)]; exact k12
            · unfold dIm at *
              rw [fV6 113 (by decide) (by decide) (by decide) (by decide) (by decide), fV6 114 (by decide) (by decide) (by decide) (by decide) (by decide), onN_n x (by decide)]; exact k13
            · unfold dMi at *
              rw [fV6 35 (by decide) (by decide) (by decide) (by decide) (by decide), fV6 115 (by decide) (by decide) (by decide) (by decide) (by decide), fV6 108 (by decide) (by decide) (by decide) (by decide) (by decide), fV6 37 (by decide) (by decide) (by decide) (by decide) (by decide), fV6 6 (by decide) (by decide) (by decide) (by decide) (by decide), fV6 22 (by decide) (by decide) (by decide) (by decide) (by decide), onN_n x (by decide), onN_n x (by decide), e112, e111]
              exact ⟨k14.1, k14.2.1, rfl, rfl, rfl, rfl, fun j j0 j1 => by rw [onN_n x (by omega)]; exact k14.2.2.2.2.2.2.1 j j0 j1, k14.2.2.2.2.2.2.2⟩
          refine Tr_bnd (D_startAnew (x := onY x) hG hok.1 hp) ?_
          rintro _ Z ⟨z1, z2⟩
          exact Tr_ret ⟨z1, frX_tr (fun a ha => fV6 a (by omega) (by omega) (by omega) (by omega) (by omega)) z2⟩
        · have t1 := hT (1 + 3 * p) (by omega) (by omega)
          have t2 := hT (2 + 3 * p) (by omega) (by omega)
          have t3 := hT (3 + 3 * p) (by omega) (by omega)
          have at' : ∀ k, 0 ≤ k → k < xN x 6 → f_Bytes_at S0 W 1 k = some (xT x k, W) := fun k a b => by rw [Bt_at tW h6 k, if_pos ⟨a, b⟩]
          rw [F_0_0, gd_t O_1, w32_id (x := 3 * p) (by omega) (by omega), w32_id (x := 1 + 3 * p) (by omega) (by omega), w32_id (x := 2 + 3 * p) (by omega) (by omega), w32_id (x := 3 + 3 * p) (by omega) (by omega)]
          refine Tr_bq (at' _ (by omega) (by omega)) (Tr_bq (at' _ (by omega) (by omega)) (Tr_bq (at' _ (by omega) (by omega)) ?_))
          rw [F_0_4, gd_t O_41]
          refine Tr_bnd (S_setPlace hG ha (by rw [fW 41 (by decide)]; exact k4.1) p0 (by omega) ⟨t1.1, by omega⟩ ⟨t2.1, by omega⟩ ⟨t3.1, by omega⟩) ?_
          rintro _ U ⟨u1, u2⟩
          rw [w32_id (x := p + 1) (by omega) (by omega)]
          refine ih (p + 1) U (by omega) (by omega) (by omega) (fun a ha => by rw [u2 a ha, fW a ha]) (fun q q0 q1 => ?_)
          have u1' : U 42 = upI (W 42) p (16 * xT x (1 + 3 * p) + 4 * xT x (3 + 3 * p) + xT x (2 + 3 * p)) := u1
          rw [u1']
          by_cases z : q = p
          · rw [z, upI_s]
          · rw [upI_n _ _ z]; exact kW q q0 (by omega)
    have hti : Tr (f_SG_takeImage S0 V 0) (fun _ U => dIt (xAn (onY x)) t U ∧ frX V U) := by
      unfold f_SG_takeImage
      rw [gd_t O_0]
      exact hl FU 0 V (by omega) (by omega) (by rw [FU_v]; omega) (fun _ _ => rfl) (fun q q0 q1 => by omega)
    refine Tr_bnd hti ?_
    rintro _ U ⟨u1, u2⟩
    refine hJ _ U 1 u1 ?_ (Or.inr rfl) u2
    rw [xAn_n (by decide) (by decide) (by decide)]
    show (0 : Int) ≤ 40
    decide
