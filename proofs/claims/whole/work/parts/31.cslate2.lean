/-! the class's slates: applying, likeness, copies -/
theorem chg_r {G : GM} {s : SL} {c : Int} (hc : chg G s c = 1) : 0 ≤ c ∧ c < 6 * qR G ∧ (c % 6 = 5 → c / 6 + 1 < qR G) := by
  unfold chg at hc
  by_cases c1 : 0 ≤ c ∧ c < 6 * qR G
  · refine ⟨c1.1, c1.2, fun e => ?_⟩
    rw [if_pos c1] at hc
    by_cases e1 : qE G (sA s (c / 6)) = 1
    · rw [if_pos e1] at hc; omega
    rw [if_neg e1, if_neg (by omega), if_neg (by omega)] at hc
    exact Classical.byContradiction fun z => by rw [if_neg (fun q => z q.1)] at hc; omega
  · rw [if_neg c1] at hc; omega
theorem app_nm {G : GM} {s : SL} (hs : SOK G s) (hn : SNM G s) {c : Int} (hc : chg G s c = 1) : SNM G (app s c) := by
  obtain ⟨c0, c1, c5⟩ := chg_r hc
  have ra := hs.1 (c / 6) (by omega) (by omega)
  intro i hi
  have n := hn i hi
  have hne : i ≠ sA s (c / 6) := by omega
  unfold app
  by_cases d0 : c % 6 = 0
  · rw [if_pos d0]
    exact ⟨n.1, by show upI s.2.1 _ _ i = 0; rw [upI_n _ _ hne]; exact n.2.1, n.2.2⟩
  · rw [if_neg d0]
    by_cases d1 : c % 6 = 1
    · rw [if_pos d1]
      exact ⟨n.1, n.2.1, by show upI s.2.2.1 _ _ i = 0; rw [upI_n _ _ hne]; exact n.2.2.1, n.2.2.2⟩
    · rw [if_neg d1]
      by_cases d5 : c % 6 = 5
      · have := c5 d5
        rw [if_pos d5]
        refine ⟨?_, n.2⟩
        show upI (upI s.1 _ _) _ _ i = 0
        rw [upI_n _ _ (by omega), upI_n _ _ (by omega)]; exact n.1
      · rw [if_neg d5]
        exact ⟨n.1, n.2.1, n.2.2.1, by show upI s.2.2.2 _ _ i = 0; rw [upI_n _ _ hne]; exact n.2.2.2⟩
theorem pk_app {G : GM} {s : SL} (hs : SOK G s) {c : Int} (hc : chg G s c = 1) {p : Int} (h0 : 0 ≤ p) (hp : p < qR G) :
    pk (app s c) p = if c % 6 = 0 then (if p = c / 6 then pk s p + 1 - 2 * sX s (sA s p) else pk s p) else if c % 6 = 1 then (if p = c / 6 then pk s p + 2 - 4 * sT s (sA s p) else pk s p)
      else if c % 6 = 5 then (if p = c / 6 then pk s (c / 6 + 1) else if p = c / 6 + 1 then pk s (c / 6) else pk s p) else (if p = c / 6 then pk s p - 4 * sN s (sA s p) + 4 * (c % 6 - 1) else pk s p) := by
  obtain ⟨c0, c1, c5⟩ := chg_r hc
  have inj : sA s p = sA s (c / 6) → p = c / 6 := fun e => hs.2.1 _ _ h0 hp (by omega) (by omega) e
  unfold app
  by_cases d0 : c % 6 = 0
  · rw [if_pos d0, if_pos d0]
    show 16 * sA s p + 4 * sN s (sA s p) + 2 * sT s (sA s p) + upI s.2.1 (sA s (c / 6)) (1 - sX s (sA s (c / 6))) (sA s p) = _
    unfold pk
    by_cases e : p = c / 6
    · rw [if_pos e, ← e, upI_s]; omega
    · rw [if_neg e, upI_n _ _ (fun q => e (inj q))]; rfl
  · rw [if_neg d0, if_neg d0]
    by_cases d1 : c % 6 = 1
    · rw [if_pos d1, if_pos d1]
      show 16 * sA s p + 4 * sN s (sA s p) + 2 * upI s.2.2.1 (sA s (c / 6)) (1 - sT s (sA s (c / 6))) (sA s p) + sX s (sA s p) = _
      unfold pk
      by_cases e : p = c / 6
      · rw [if_pos e, ← e, upI_s]; omega
      · rw [if_neg e, upI_n _ _ (fun q => e (inj q))]; rfl
    · rw [if_neg d1, if_neg d1]
      by_cases d5 : c % 6 = 5
      · have := c5 d5
        rw [if_pos d5, if_pos d5]
        have hv : sA (upI (upI s.1 (c / 6) (sA s (c / 6 + 1))) (c / 6 + 1) (sA s (c / 6)), s.2.1, s.2.2.1, s.2.2.2) p = if p = c / 6 + 1 then sA s (c / 6) else if p = c / 6 then sA s (c / 6 + 1) else sA s p := rfl
        unfold pk
        rw [hv]
        by_cases x : p = c / 6 + 1
        · rw [if_pos x, if_neg (by omega), if_pos x]; rfl
        · rw [if_neg x]
          by_cases y : p = c / 6
          · rw [if_pos y, if_pos y]; rfl
          · rw [if_neg y, if_neg y, if_neg x]; rfl
      · rw [if_neg d5, if_neg d5]
        show 16 * sA s p + 4 * upI s.2.2.2 (sA s (c / 6)) (c % 6 - 1) (sA s p) + 2 * sT s (sA s p) + sX s (sA s p) = _
        unfold pk
        by_cases e : p = c / 6
        · rw [if_pos e, ← e, upI_s]; omega
        · rw [if_neg e, upI_n _ _ (fun q => e (inj q))]; rfl
theorem S_setPacked {G : GM} {a : Int} {V : ASt} (hG : GOK G) (ha : isSl a) (h : V a 0 = qR G) {p x : Int} (h0 : 0 ≤ p) (hp : p < qR G) : Tr (f_Slate_setPacked S0 V a p x) (fun _ U => U (a + 1) = upI (V (a + 1)) p x ∧ ∀ b, b ≠ a + 1 → U b = V b) := by
  have hR := hG.2.2.1
  unfold f_Slate_setPacked
  rw [gd_t (OS ha), S_isPlace ha V p (by omega), bnd_e, h, if_pos (show 0 ≤ p ∧ p < qR G from ⟨h0, hp⟩), if_neg (by decide), FS_1 ha, AS1 ha, gd_in (by omega) (by omega)]
  exact Tr_set (fun V1 e1 n1 => Tr_ret ⟨e1, n1⟩)
theorem S_setPlace {G : GM} {a : Int} {V : ASt} (hG : GOK G) (ha : isSl a) (h : V a 0 = qR G) {p r f n : Int} (h0 : 0 ≤ p) (hp : p < qR G) (hr : 0 ≤ r ∧ r < 256) (hf : 0 ≤ f ∧ f < 256) (hn : 0 ≤ n ∧ n < 256) : Tr (f_Slate_setPlace S0 V a p r f n) (fun _ U => U (a + 1) = upI (V (a + 1)) p (16 * r + 4 * n + f) ∧ ∀ b, b ≠ a + 1 → U b = V b) := by
  unfold f_Slate_setPlace
  rw [gd_t (OS ha), w32_id (x := r * 16) (by omega) (by omega), w32_id (x := n * 4) (by omega) (by omega), w32_id (x := r * 16 + n * 4) (by omega) (by omega), w32_id (x := r * 16 + n * 4 + f) (by omega) (by omega), show r * 16 + n * 4 + f = 16 * r + 4 * n + f by omega]
  refine Tr_bnd (S_setPacked hG ha h h0 hp) ?_
  rintro x U hU
  exact Tr_ret hU
theorem xor2_t : ∀ n : Nat, n < 256 → xor32 n 2 = if n / 2 % 2 = 0 then (n : Int) + 2 else (n : Int) - 2 := by decide +kernel
theorem xor2_e {x : Int} (h : 0 ≤ x) (h2 : x < 256) : xor32 x 2 = x + 2 - 4 * (x / 2 % 2) := by
  have := xor2_t x.toNat (by omega)
  rw [cast_t h] at this
  rw [this]
  by_cases c : x.toNat / 2 % 2 = 0
  · rw [if_pos c]; omega
  · rw [if_neg c]; omega
theorem S_apply {G : GM} {s : SL} {a : Int} {V : ASt} (hG : GOK G) (hs : SOK G s) (ha : isSl a) (h : dS G s a V) {c : Int} (hc : chg G s c = 1) : Tr (f_Slate_apply S0 V a c) (fun _ U => dS G (app s c) a U ∧ ∀ b, b ≠ a + 1 → U b = V b) := by
  obtain ⟨c0, c1, c5⟩ := chg_r hc
  have hR := hG.2.2.1
  have hpk := fun p (h0 : 0 ≤ p) (hp : p < qR G) => pk_app hs hc (p := p) h0 hp
  have q := pk_f hG hs (p := c / 6) (by omega) (by omega)
  have ra := hs.1 (c / 6) (by omega) (by omega)
  unfold f_Slate_apply
  rw [gd_t (OS ha), tdiv_e c0, tmod_e c0, w32_id (x := c / 6) (by omega) (by omega), S_packedAt hG ha h, bnd_e, if_pos (show 0 ≤ c / 6 ∧ c / 6 < qR G by omega)]
  have hone : ∀ (x : Int) (U : ASt), (∀ p, 0 ≤ p → p < qR G → pk (app s c) p = if p = c / 6 then x else pk s p) → (U (a + 1) = upI (V (a + 1)) (c / 6) x ∧ ∀ b, b ≠ a + 1 → U b = V b) → (dS G (app s c) a U ∧ ∀ b, b ≠ a + 1 → U b = V b) := by
    intro x U hx hU
    refine ⟨⟨by rw [hU.2 a (by omega)]; exact h.1, fun p h0 hp => ?_⟩, hU.2⟩
    rw [hx p h0 hp, hU.1]
    by_cases e : p = c / 6
    · rw [if_pos e, e, upI_s]
    · rw [if_neg e, upI_n _ _ e]; exact h.2 p h0 hp
  refine Tr_if (fun d0 => ?_) (fun d0 => ?_)
  · rw [xor1_e (by omega) (by omega)]
    refine Tr_bnd (S_setPacked hG ha h.1 (by omega) (by omega)) ?_
    rintro y U hU
    refine Tr_ret (hone _ U (fun p h0 hp => ?_) hU)
    rw [hpk p h0 hp, if_pos d0]
    by_cases e : p = c / 6
    · rw [if_pos e, if_pos e, e]; omega
    · rw [if_neg e, if_neg e]
  refine Tr_if (fun d1 => ?_) (fun d1 => ?_)
  · rw [xor2_e (by omega) (by omega)]
    refine Tr_bnd (S_setPacked hG ha h.1 (by omega) (by omega)) ?_
    rintro y U hU
    refine Tr_ret (hone _ U (fun p h0 hp => ?_) hU)
    rw [hpk p h0 hp, if_neg d0, if_pos d1]
    by_cases e : p = c / 6
    · rw [if_pos e, if_pos e, e]; omega
    · rw [if_neg e, if_neg e]
  refine Tr_if (fun d5 => ?_) (fun d5 => ?_)
  · have c6 := c5 d5
    rw [w32_id (x := c / 6 + 1) (by omega) (by omega), S_packedAt hG ha h, bnd_e, if_pos (show 0 ≤ c / 6 + 1 ∧ c / 6 + 1 < qR G by omega)]
    refine Tr_bnd (S_setPacked hG ha h.1 (by omega) (by omega)) ?_
    rintro y U hU
    refine Tr_bnd (S_setPacked hG ha (by rw [hU.2 a (by omega)]; exact h.1) (by omega) (by omega)) ?_
    rintro z W hW
    refine Tr_ret ⟨⟨by rw [hW.2 a (by omega), hU.2 a (by omega)]; exact h.1, fun p h0 hp => ?_⟩, fun b hb => by rw [hW.2 b hb, hU.2 b hb]⟩
    rw [hpk p h0 hp, if_neg d0, if_neg d1, if_pos d5, hW.1, hU.1]
    by_cases e : p = c / 6
    · rw [if_pos e, upI_n _ _ (by omega), e, upI_s]
    · rw [if_neg e]
      by_cases e2 : p = c / 6 + 1
      · rw [if_pos e2, e2, upI_s]
      · rw [if_neg e2, upI_n _ _ e2, upI_n _ _ e]; exact h.2 p h0 hp
  · have nr := sN_r hs ra.1 ra.2
    have nn := hs.2.2 (sA s (c / 6)) ra.1 ra.2
    rw [S_ruleAt hG hs ha h (by omega) (by omega), bnd_e, S_flagsAt hG hs ha h (by omega) (by omega), bnd_e, w32_id (x := c % 6 - 1) (by omega) (by omega)]
    refine Tr_bnd (S_setPlace hG ha h.1 (by omega) (by omega) (by omega) (by omega) (by omega)) ?_
    rintro y U hU
    refine Tr_ret (hone _ U (fun p h0 hp => ?_) hU)
    rw [hpk p h0 hp, if_neg d0, if_neg d1, if_neg d5]
    by_cases e : p = c / 6
    · rw [if_pos e, if_pos e, e]; unfold pk; omega
    · rw [if_neg e, if_neg e]
theorem zb_t {x : Int} (h : x = 0 ∨ x = 1) {α : Type} (o : Option α) : gd (zb x) o = o := by
  rcases h with e | e <;> subst e <;> rfl
theorem isLike_loop {G : GM} {s s' : SL} {a a' : Int} {V : ASt} (hG : GOK G) (ha : isSl a) (ha' : isSl a') (h : dS G s a V) (h' : dS G s' a' V) : ∀ (n : Nat) (i x : Int), 0 ≤ i → i ≤ qR G → qR G - i < n → ((x = 1 ∧ ∀ p, 0 ≤ p → p < i → pk s p = pk s' p) ∨ (x = 0 ∧ ¬ ∀ p, 0 ≤ p → p < qR G → pk s p = pk s' p)) →
    ∃ y, b_Slate_isLike_L19 S0 a a' n V x i = some (y, V) ∧ ((y = 1 ∧ ∀ p, 0 ≤ p → p < qR G → pk s p = pk s' p) ∨ (y = 0 ∧ ¬ ∀ p, 0 ≤ p → p < qR G → pk s p = pk s' p)) := by
  have hR := hG.2.2.1
  intro n
  induction n with
  | zero => intro i x h1 h2 h3; omega
  | succ n ih =>
    intro i x i0 i1 hn hx
    have hx01 : x = 0 ∨ x = 1 := by rcases hx with q | q <;> omega
    rw [b_Slate_isLike_L19, h.1]
    by_cases c : qR G ≤ i
    · rw [if_pos c, zb_t hx01]
      refine ⟨x, rfl, ?_⟩
      rcases hx with ⟨q1, q2⟩ | q
      · exact Or.inl ⟨q1, fun p p0 p1 => q2 p p0 (by omega)⟩
      · exact Or.inr q
    rw [if_neg c, if_neg (by omega)]
    rcases hx with ⟨q1, q2⟩ | ⟨q1, q2⟩
    · rw [if_neg (by omega), FS_1 ha, AS1 ha, gd_in (by omega) (by omega), gd_t (OS ha'), FS_1 ha', AS1 ha', gd_in (by omega) (by omega), h.2 i i0 (by omega), h'.2 i i0 (by omega), w32_id (x := i + 1) (by omega) (by omega)]
      by_cases e : pk s i = pk s' i
      · rw [if_pos e]
        refine ih (i + 1) 1 (by omega) (by omega) (by omega) (Or.inl ⟨rfl, fun p p0 p1 => ?_⟩)
        by_cases z : p = i
        · rw [z]; exact e
        · exact q2 p p0 (by omega)
      · rw [if_neg e]
        exact ih (i + 1) 0 (by omega) (by omega) (by omega) (Or.inr ⟨rfl, fun z => e (z i i0 (by omega))⟩)
    · rw [if_pos q1, zb_t hx01]
      exact ⟨x, rfl, Or.inr ⟨q1, q2⟩⟩
theorem S_isLike {G : GM} {s s' : SL} {a a' : Int} {V : ASt} (hG : GOK G) (ha : isSl a) (ha' : isSl a') (h : dS G s a V) (h' : dS G s' a' V) :
    ∃ y, f_Slate_isLike S0 V a a' = some (y, V) ∧ ((y = 1 ∧ ∀ p, 0 ≤ p → p < qR G → pk s p = pk s' p) ∨ (y = 0 ∧ ¬ ∀ p, 0 ≤ p → p < qR G → pk s p = pk s' p)) := by
  have hR := hG.2.2.1
  obtain ⟨y, hy, hh⟩ := isLike_loop hG ha ha' h h' FU 0 1 (by omega) (by omega) (by rw [FU_v]; omega) (Or.inl ⟨rfl, fun p a b => by omega⟩)
  refine ⟨y, ?_, hh⟩
  unfold f_Slate_isLike
  rw [gd_t (OS ha), gd_t (OS ha'), h.1, h'.1, if_pos rfl, hy]
theorem S_copyFrom {G : GM} {s : SL} {a a' : Int} {V : ASt} (hG : GOK G) (ha : isSl a) (ha' : isSl a') (hne : a ≠ a') (h' : dS G s a' V) : Tr (f_Slate_copyFrom S0 V a a') (fun _ U => dS G s a U ∧ (∀ b, b ≠ a → b ≠ a + 1 → U b = V b) ∧ (∀ k, k ≠ 0 → U a k = V a k)) := by
  have hR := hG.2.2.1
  have hsep : a' ≠ a + 1 ∧ a' + 1 ≠ a ∧ a' + 1 ≠ a + 1 := by
    have h1 := ha
    have h2 := ha'
    unfold isSl at h1 h2
    omega
  unfold f_Slate_copyFrom
  rw [gd_t (OS ha), gd_t (OS ha')]
  refine Tr_set (fun V1 e1 n1 => ?_)
  rw [FS_1 ha, FS_1 ha']
  have hg : cpG S0 (a' + 1) 0 (a + 1) 0 12 = true := by
    unfold cpG
    rw [WS1 ha, WS1 ha', NS1 ha, NS1 ha']
    decide
  rw [gd_t hg]
  refine Tr_wV (fun V2 e2 => Tr_ret ⟨⟨?_, fun p h0 hp => ?_⟩, fun b b1 b2 => ?_, fun k hk => ?_⟩)
  · rw [e2, arow_n _ _ (by omega), e1, upI_s]; exact h'.1
  · rw [e2, arow_s]
    unfold cpI
    rw [if_pos (by omega), n1 _ hsep.2.1, show (0 : Int) + (p - 0) = p by omega]
    exact h'.2 p h0 hp
  · rw [e2, arow_n _ _ b2, n1 b b1]
  · rw [e2, arow_n _ _ (by omega), e1, upI_n _ _ hk]
/-- the slate as the text tells it -/
def toldS (G : GM) : SL := (fun p => if 0 ≤ p ∧ p < qR G then p else 0, fun _ => 0, fun _ => 0, fun r => if 0 ≤ r ∧ r < qR G then qN G r else 0)
theorem toldS_nm (G : GM) : SNM G (toldS G) := fun i hi => ⟨if_neg (by omega), rfl, rfl, if_neg (by omega)⟩
theorem toldS_A {G : GM} {p : Int} (h0 : 0 ≤ p) (hp : p < qR G) : sA (toldS G) p = p := if_pos ⟨h0, hp⟩
theorem toldS_N {G : GM} {p : Int} (h0 : 0 ≤ p) (hp : p < qR G) : sN (toldS G) p = qN G p := if_pos ⟨h0, hp⟩
theorem toldS_ok {G : GM} (hG : GOK G) : SOK G (toldS G) := by
  refine ⟨fun p h0 hp => by rw [toldS_A h0 hp]; exact ⟨h0, hp⟩, fun p q p0 p1 q0 q1 e => by rw [toldS_A p0 p1, toldS_A q0 q1] at e; exact e, fun r h0 hr => ⟨Or.inl rfl, Or.inl rfl, ?_⟩⟩
  rw [toldS_N h0 hr]
  have kk := hG.2.2.2.2.2.2.1 r h0 hr
  unfold hasN
  refine ⟨fun z => ?_, fun z => ?_⟩
  · have := (kk.2.2.2.1 z.1); have := this.2.2.2.2.2 z.2; omega
  · by_cases k2 : qK G r < 2
    · have := (kk.2.2.2.1 k2).2.2.2.2.1
      exact this (Classical.byContradiction fun q => z ⟨k2, q⟩)
    · exact (kk.2.2.2.2 (by omega)).2.2
theorem takeAsTold_loop {G : GM} {a t : Int} {V : ASt} (hG : GOK G) (ha : isSl a) (ht : isGm t) (hat : ∀ o, 0 ≤ o → o ≤ 15 → t + o ≠ a + 1) (h : dG G t V) (h0 : V a 0 = qR G) : ∀ (n : Nat) (i : Int) (W : ASt), 0 ≤ i → i ≤ qR G → qR G - i < n → (∀ b, b ≠ a + 1 → W b = V b) → (∀ p, 0 ≤ p → p < i → W (a + 1) p = pk (toldS G) p) →
    Tr (b_Slate_takeAsTold_L10 S0 a t n W i) (fun _ U => dS G (toldS G) a U ∧ ∀ b, b ≠ a + 1 → U b = V b) := by
  have hR := hG.2.2.1
  intro n
  induction n with
  | zero => intro i W h1 h2 h3; omega
  | succ n ih =>
    intro i W i0 i1 hn hf hp
    have w0 : W a 0 = qR G := by rw [hf a (by omega)]; exact h0
    rw [b_Slate_takeAsTold_L10, w0]
    refine Tr_if (fun c => ?_) (fun c => ?_)
    · exact Tr_ret ⟨⟨w0, fun p p0 p1 => hp p p0 (by omega)⟩, hf⟩
    rw [if_neg (by omega), gd_t (OG ht)]
    have kk := hG.2.2.2.2.2.2.1 i i0 (by omega)
    have nr : 0 ≤ qN G i ∧ qN G i ≤ 3 := by
      by_cases k2 : qK G i < 2
      · have := kk.2.2.2.1 k2
        by_cases w2 : qW G i = 2
        · have := this.2.2.2.2.1 w2; omega
        · have := this.2.2.2.2.2 w2; omega
      · have := (kk.2.2.2.2 (by omega)).2.2; omega
    have gW : dG G t W := dG_fr (hf t (by have := hat 0 (by omega) (by omega); omega)) (fun o o1 o2 => hf _ (hat o (by omega) (by omega))) h
    refine Tr_bq (G_stepOf hG ht gW i0 (by omega)) ?_
    refine Tr_bnd (S_setPlace hG ha w0 i0 (by omega) (by omega) (by omega) (by omega)) ?_
    rintro y U hU
    rw [w32_id (x := i + 1) (by omega) (by omega)]
    refine ih (i + 1) U (by omega) (by omega) (by omega) (fun b hb => by rw [hU.2 b hb, hf b hb]) (fun p p0 p1 => ?_)
    rw [hU.1]
    by_cases e : p = i
    · rw [e, upI_s]
      unfold pk
      rw [toldS_A i0 (by omega), toldS_N i0 (by omega), show sX (toldS G) i = 0 from rfl, show sT (toldS G) i = 0 from rfl]
      omega
    · rw [upI_n _ _ e]; exact hp p p0 (by omega)
theorem S_takeAsTold {G : GM} {a t : Int} {V : ASt} (hG : GOK G) (ha : isSl a) (ht : isGm t) (hat : ∀ o, 0 ≤ o → o ≤ 15 → t + o ≠ a + 1 ∧ t + o ≠ a) (h : dG G t V) : Tr (f_Slate_takeAsTold S0 V a t) (fun _ U => dS G (toldS G) a U ∧ (∀ b, b ≠ a → b ≠ a + 1 → U b = V b) ∧ (∀ k, k ≠ 0 → U a k = V a k)) := by
  have hR := hG.2.2.1
  unfold f_Slate_takeAsTold
  rw [gd_t (OS ha), gd_t (OG ht), h.2.2.1]
  refine Tr_set (fun V1 e1 n1 => ?_)
  have g1 : dG G t V1 := dG_fr (n1 t (by have := hat 0 (by omega) (by omega); omega)) (fun o o1 o2 => n1 _ (hat o (by omega) (by omega)).2) h
  refine Tr_mono (takeAsTold_loop hG ha ht (fun o a b => (hat o a b).1) g1 (by rw [e1, upI_s]) FU 0 V1 (by omega) (by omega) (by rw [FU_v]; omega) (fun _ _ => rfl) (fun p a b => by omega)) ?_
  rintro r U ⟨u1, u2⟩
  exact ⟨u1, fun b b1 b2 => by rw [u2 b b2, n1 b b1], fun k hk => by rw [u2 a (by omega), e1, upI_n _ _ hk]⟩
