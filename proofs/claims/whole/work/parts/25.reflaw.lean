/-! the reference: tests, isLawful, leads -/
theorem rG_fr {G : GM} {b : Int} {V W : ASt} (h : ∀ a, 142 ≤ a → a ≤ 159 → W a = V a) (g : rG G b V) : rG G b W := by
  unfold rG at *
  rw [h 142 (by decide) (by decide), h 144 (by decide) (by decide), h 145 (by decide) (by decide), h 147 (by decide) (by decide), h 148 (by decide) (by decide), h 149 (by decide) (by decide), h 150 (by decide) (by decide), h 151 (by decide) (by decide), h 152 (by decide) (by decide), h 153 (by decide) (by decide), h 154 (by decide) (by decide), h 155 (by decide) (by decide)]
  exact g
theorem rS_fr {G : GM} {s : SL} {V W : ASt} (h : ∀ a, 169 ≤ a → a ≤ 172 → W a = V a) (g : rS G s V) : rS G s W := by
  unfold rS at *
  rw [h 169 (by decide) (by decide), h 170 (by decide) (by decide), h 171 (by decide) (by decide), h 172 (by decide) (by decide)]
  exact g
/-- the reference's tests, by what running them gives -/
def rT (G : GM) (b : Int) (V : ASt) : Prop := ∀ r, 0 ≤ r → r < qR G → ∀ W : ASt, (∀ j, 1800 * b ≤ j → j < 1800 * b + 1800 → W 158 j = V 158 j ∧ W 159 j = V 159 j) → W 142 12 = b → (∀ j, 1 ≤ j → j ≤ 3 + qP G → 0 ≤ W 168 j ∧ W 168 j ≤ 9) →
  Tr (f_M_works S0 W 142 (V 156 (12 * b + r)) (V 157 (12 * b + r))) (fun x U => x = qT G r (W 168 1) (W 168 2) (W 168 3) (W 168 4) (W 168 5) ∧ ∀ a, a ≠ 167 → U a = W a)
theorem rT_fr {G : GM} {b : Int} {V W : ASt} (h : ∀ a, 156 ≤ a → a ≤ 159 → W a = V a) (g : rT G b V) : rT G b W := by
  unfold rT at *
  rw [h 156 (by decide) (by decide), h 157 (by decide) (by decide), h 158 (by decide) (by decide), h 159 (by decide) (by decide)]
  exact g
/-- U is V but for the rows that running tests uses -/
def frT (V U : ASt) : Prop := ∀ a, a ≠ 167 → a ≠ 168 → U a = V a
theorem frT_rfl (V : ASt) : frT V V := fun _ _ _ => rfl
theorem frT_tr {V U W : ASt} (h : frT V U) (h2 : frT U W) : frT V W := fun a h1 h3 => by rw [h2 a h1 h3, h a h1 h3]
/-- what the moment holds for a move p k g, names of position q -/
def mom (G : GM) (W : ASt) (p k g q : Int) : Prop := W 168 1 = spt G p k ∧ W 168 2 = g ∧ W 168 3 = p % 2 ∧ (0 < qP G → W 168 4 = spt G q 0) ∧ (1 < qP G → W 168 5 = spt G q 1)
theorem cmp_1 (x : Int) : (cmp64 x 1 = 0) ↔ x = 1 := by
  unfold cmp64
  by_cases h1 : 1 < x
  · rw [if_pos h1]; omega
  · rw [if_neg h1]
    by_cases h2 : x = 1
    · rw [if_pos h2]; omega
    · rw [if_neg h2]; omega
theorem M_holds {G : GM} {b : Int} {V : ASt} (hG : GOK G) (h : rG G b V) (hT : rT G b V) {p k g q r : Int} (hm : mom G V p k g q) (hp : 0 ≤ p) (hq : 0 ≤ q) (hg : 0 ≤ g ∧ g ≤ 9) (h0 : 0 ≤ r) (hr : r < qR G) :
    Tr (f_M_holds S0 V 142 r) (fun x U => x = qT G r (spt G p k) g (p % 2) (spt G q 0) (spt G q 1) ∧ ∀ a, a ≠ 167 → U a = V a) := by
  have hto := M_told h (r := r) h0 (by have := hG.2.2.1; omega)
  have hb := h.1
  have hb2 := h.2.1
  obtain ⟨m1, m2, m3, m4, m5⟩ := hm
  have s1 := spt_r hG p k hp
  have s2 := spt_r hG q 0 hq
  have s3 := spt_r hG q 1 hq
  have g1 := hG.1
  have g2 := hG.2.1
  have hw := hT r h0 hr V (fun _ _ _ => ⟨rfl, rfl⟩) hb (by
    intro j j1 j2
    have : j = 1 ∨ j = 2 ∨ j = 3 ∨ j = 4 ∨ j = 5 := by omega
    rcases this with e | e | e | e | e <;> subst e
    · rw [m1]; omega
    · rw [m2]; omega
    · rw [m3]; omega
    · rw [m4 (by omega)]; omega
    · rw [m5 (by omega)]; omega)
  have e : qT G r (V 168 1) (V 168 2) (V 168 3) (V 168 4) (V 168 5) = qT G r (spt G p k) g (p % 2) (spt G q 0) (spt G q 1) := by
    rw [m1, m2, m3]
    have i1 := hG.2.2.2.2.2.2.2.2.1
    have i0 := hG.2.2.2.2.2.2.2.2.2
    rcases P_cases g2 with e | e | e
    · exact i0 r _ _ _ _ _ _ _ h0 hr (by omega)
    · rw [m4 (by omega)]
      exact i1 r _ _ _ _ _ _ h0 hr (by omega)
    · rw [m4 (by omega), m5 (by omega)]
  have hz := hG.2.2.2.2.2.2.2.1 r (V 168 1) (V 168 2) (V 168 3) (V 168 4) (V 168 5)
  rw [e] at hw hz
  unfold f_M_holds
  have hR := hG.2.2.1
  refine Tr_gd O_142 (Tr_bq hto ?_)
  rw [F_142_25, A_156]
  rw [gd_in (by omega) (by omega)]
  refine Tr_bq hto ?_
  rw [F_142_26, A_157, gd_in (by omega) (by omega)]
  refine Tr_bnd hw ?_
  rintro x U ⟨hx, hU⟩
  subst hx
  rcases hz with hz | hz
  · rw [hz]
    exact Tr_f (by decide) (Tr_ret ⟨rfl, hU⟩)
  · rw [hz]
    exact Tr_t (by decide) (Tr_ret ⟨rfl, hU⟩)
theorem M_names {G : GM} {b : Int} {V : ASt} (hG : GOK G) (h : rG G b V) {q : Int} (hq : 0 ≤ q) (hq2 : q < 2147483648) :
    Tr (f_M_names S0 V 142 q) (fun x U => (∀ a, a ≠ 168 → U a = V a) ∧ (0 < qP G → U 168 4 = spt G q 0) ∧ (1 < qP G → U 168 5 = spt G q 1) ∧ (∀ j, j ≠ 4 → j ≠ 5 → U 168 j = V 168 j)) := by
  obtain ⟨m, hm⟩ := FU_s
  have hS : ∀ (W : ASt) (j : Int), (∀ a, a ≠ 168 → W a = V a) → 0 ≤ j → j < qP G → f_M_spotOf S0 W 142 q j = some (spt G q j, W) := fun W j hW a c => M_spotOf hG (rG_fr (fun a h1 h2 => hW a (by omega)) h) hq hq2 a c
  obtain ⟨h1, h2, h3, h4, -⟩ := h
  have g2 := hG.2.1
  unfold f_M_names
  rw [hm]
  refine Tr_gd O_142 ?_
  rw [b_M_names_L2, F_142_14, A_145, h1, gd_in (by omega) (by omega), h4]
  refine Tr_if (fun c => Tr_ret ⟨fun _ _ => rfl, by omega, by omega, fun _ _ _ => rfl⟩) (fun c => ?_)
  refine Tr_bq (hS V 0 (fun _ _ => rfl) (by omega) (by omega)) ?_
  rw [F_142_43, A_168, show w32 (4 + 0) = 4 by decide, gd_in (by decide) (by decide)]
  refine Tr_set (fun V1 e1 n1 => ?_)
  have n1' : ∀ a, a ≠ 168 → V1 a = V a := n1
  rw [b_M_names_L2, F_142_14, A_145, n1 142 (by decide), n1 145 (by decide), h1, gd_in (by omega) (by omega), h4, show w32 (0 + 1) = 1 by decide]
  refine Tr_if (fun c => Tr_ret ⟨n1', fun _ => by rw [e1, upI_s], by omega, fun j a _ => by rw [e1, upI_n _ _ a]⟩) (fun c => ?_)
  refine Tr_bq (hS V1 1 n1' (by omega) (by omega)) ?_
  rw [F_142_43, A_168, show w32 (4 + 1) = 5 by decide, gd_in (by decide) (by decide)]
  refine Tr_set (fun V2 e2 n2 => ?_)
  have n2' : ∀ a, a ≠ 168 → V2 a = V a := fun a ha => by rw [n2 a ha, n1 a ha]
  rw [b_M_names_L2, F_142_14, A_145, n2' 142 (by decide), n2' 145 (by decide), h1, gd_in (by omega) (by omega), h4, show w32 (1 + 1) = 2 by decide]
  refine Tr_t (by omega) (Tr_ret ⟨n2', fun _ => ?_, fun _ => by rw [e2, upI_s], fun j a c => ?_⟩)
  · rw [e2, upI_n _ _ (by decide), e1, upI_s]
  · rw [e2, upI_n _ _ c, e1, upI_n _ _ a]
theorem kNow_lt {G : GM} {s : SL} {r : Int} (h : 0 ≤ qK G r ∧ qK G r ≤ 3) : (1 < kNow G s r ↔ 2 ≤ qK G r) ∧ 0 ≤ kNow G s r ∧ kNow G s r ≤ 3 := by
  unfold kNow
  by_cases t : sT s r = 0
  · rw [if_pos t]; omega
  · rw [if_neg t]
    by_cases k0 : qK G r = 0
    · rw [if_pos k0]; omega
    · rw [if_neg k0]
      by_cases k1 : qK G r = 1
      · rw [if_pos k1]; omega
      · rw [if_neg k1]
        by_cases k2 : qK G r = 2
        · rw [if_pos k2]; omega
        · rw [if_neg k2]; omega
theorem toNat_s {i : Int} (h : 0 ≤ i) : (i + 1).toNat = i.toNat + 1 := by omega
theorem cast_t {i : Int} (h : 0 ≤ i) : ((i.toNat : Nat) : Int) = i := Int.toNat_of_nonneg h
theorem law_loop {G : GM} {b : Int} {s : SL} {V : ASt} (hG : GOK G) (hs' : SOK G s) (h : rG G b V) (hs : rS G s V) (hT : rT G b V) {p k g : Int} (hp : 0 ≤ p) (hg : 0 ≤ g ∧ g ≤ 9) : ∀ (n : Nat) (i : Int) (W : ASt), i + 1 < n → -1 ≤ i → i < qR G → frT V W → mom G W p k g p →
    Tr (b_M_isLawful_L90 S0 142 k g (spt G p k) n W i) (fun x U => x = lawS G s p k g (i + 1).toNat ∧ frT V U) := by
  intro n
  induction n with
  | zero => intro i W h1 h2; omega
  | succ n ih =>
    intro i W hi h1 h2 hW hm
    have hR := hG.2.2.1
    rw [b_M_isLawful_L90]
    refine Tr_if (fun c => ?_) (fun c => ?_)
    · have : i = -1 := by omega
      subst this
      exact Tr_ret ⟨rfl, hW⟩
    have gW : rG G b W := rG_fr (fun a a1 a2 => hW a (by omega) (by omega)) h
    have sW : rS G s W := rS_fr (fun a a1 a2 => hW a (by omega) (by omega)) hs
    have tW : rT G b W := rT_fr (fun a a1 a2 => hW a (by omega) (by omega)) hT
    have a1 := (sW i (by omega) h2).1
    have ra := hs'.1 i (by omega) h2
    have a2 := sW (sA s i) ra.1 ra.2
    have kk := hG.2.2.2.2.2.2.1 (sA s i) ra.1 ra.2
    have hk := kNow_lt (G := G) (s := s) (r := sA s i) ⟨kk.2.1, kk.2.2.1⟩
    have sp := spt_r hG p k hp
    have gF := hG.1
    rw [toNat_s (by omega), lawS, cast_t (by omega)]
    rw [F_142_44, A_169, gd_in (by omega) (by omega), F_142_45, a1, A_170, gd_in (by omega) (by omega), a2.2.1]
    have ih' := fun (U : ASt) hU hmU => ih (i + -1) U (by omega) (by omega) (by omega) hU hmU
    rw [show (i + -1 + 1).toNat = i.toNat by omega] at ih'
    rw [w32_id (x := i + -1) (by omega) (by omega)]
    refine Tr_if (fun c1 => ?_) (fun c1 => ?_)
    · refine Tr_bq (M_kindNow hG gW sW ra.1 ra.2) ?_
      refine Tr_if (fun c2 => ?_) (fun c2 => ?_)
      · rw [if_neg (by omega)]
        exact ih' W hW hm
      · refine Tr_bq (M_told gW ra.1 (by omega)) ?_
        have gr := gW.2.2.2.2.2.2.2 (sA s i) ra.1 ra.2
        have gb := gW.2.1
        rw [F_142_21, A_152, gd_in (by omega) (by omega), gr.2.1]
        refine Tr_if (fun c3 => ?_) (fun c3 => ?_)
        · refine Tr_bq (M_goalOf hG hs' gW sW ra.1 ra.2 (by omega)) ?_
          refine Tr_if (fun c4 => ?_) (fun c4 => ?_)
          · refine Tr_bnd (M_holds hG gW tW hm hp hp hg ra.1 ra.2) ?_
            rintro x U ⟨hx, hU⟩
            have fU : frT V U := fun a b1 b2 => by rw [hU a b1, hW a b1 b2]
            have mU : mom G U p k g p := by unfold mom; rw [hU 168 (by decide)]; exact hm
            have hh : hold G (sA s i) p k g = x := by
              rw [hx]; unfold hold
              rw [if_neg (by omega), if_neg (by omega)]
            have hz := hG.2.2.2.2.2.2.2.1 (sA s i) (spt G p k) g (p % 2) (spt G p 0) (spt G p 1)
            refine Tr_if (fun c5 => ?_) (fun c5 => ?_)
            · rw [if_neg (by omega)]
              exact ih' U fU mU
            · rw [if_pos ⟨c1, by omega, c3, c4, by omega⟩]
              refine Tr_bq (M_kindNow hG (rG_fr (fun a a1 a2 => fU a (by omega) (by omega)) h) (rS_fr (fun a a1 a2 => fU a (by omega) (by omega)) hs) ra.1 ra.2) ?_
              refine Tr_if (fun c6 => ?_) (fun c6 => ?_)
              · rw [if_pos c6]; exact Tr_ret ⟨rfl, fU⟩
              · rw [if_neg c6]; exact Tr_ret ⟨rfl, fU⟩
          · rw [if_neg (fun q => c4 q.2.2.2.1)]
            exact ih' W hW hm
        · rw [if_neg (fun q => c3 q.2.2.1)]
          exact ih' W hW hm
    · rw [if_neg (fun q => c1 q.1)]
      exact ih' W hW hm
theorem M_isLawful {G : GM} {b : Int} {s : SL} {V : ASt} (hG : GOK G) (hs' : SOK G s) (h : rG G b V) (hs : rS G s V) (hT : rT G b V) {p k g : Int} (hp : 0 ≤ p) (hp2 : p < 2147483648) (hk : 0 ≤ k) (hk2 : k < qP G) (hg : 0 ≤ g ∧ g ≤ 9) :
    Tr (f_M_isLawful S0 V 142 p k g) (fun x U => x = law G s p k g ∧ frT V U) := by
  have hk3 := h.2.2.2.2.2.2.1 k hk hk2
  have hb := h.2.1
  have hP := hG.2.1
  have hJ : Tr (b_M_isLawful_J53 S0 V 142 p k g (spt G p k)) (fun x U => x = lawS G s p k g (qR G).toNat ∧ frT V U) := by
    unfold b_M_isLawful_J53
    rw [F_142_43, A_168, gd_in (by decide) (by decide)]
    refine Tr_set (fun V1 e1 n1 => ?_)
    rw [A_168, gd_in (by decide) (by decide)]
    refine Tr_set (fun V2 e2 n2 => ?_)
    rw [A_168, gd_in (by decide) (by decide)]
    refine Tr_set (fun V3 e3 n3 => ?_)
    have n3' : ∀ a, a ≠ 168 → V3 a = V a := fun a ha => by rw [n3 a ha, n2 a ha, n1 a ha]
    refine Tr_bnd (M_names hG (rG_fr (fun a a1 a2 => n3' a (by omega)) h) hp hp2) ?_
    rintro x U ⟨u1, u2, u3, u4⟩
    have fU : frT V U := fun a b1 b2 => by rw [u1 a b2, n3' a b2]
    refine Tr_bq (M_rulesAll (rG_fr (fun a a1 a2 => fU a (by omega) (by omega)) h)) ?_
    have hR := hG.2.2.1
    rw [w32_id (by omega) (by omega)]
    have hl := law_loop hG hs' h hs hT (p := p) (k := k) (g := g) hp hg FU (qR G - 1) U (by rw [FU_v]; omega) (by omega) (by omega) fU ⟨?_, ?_, ?_, u2, u3⟩
    · rw [show (qR G - 1 + 1) = qR G by omega] at hl
      exact hl
    · rw [u4 1 (by decide) (by decide), e3, upI_n _ _ (by decide), e2, upI_n _ _ (by decide), e1, upI_s]
    · rw [u4 2 (by decide) (by decide), e3, upI_n _ _ (by decide), e2, upI_s]
    · rw [u4 3 (by decide) (by decide), e3, upI_s, tmod_e hp]
  unfold f_M_isLawful
  refine Tr_gd O_142 (Tr_bq (M_spotOf hG h hp hp2 hk hk2) ?_)
  rw [F_142_17, h.1, w32_id (x := 2 * b) (by omega) (by omega), w32_id (x := 2 * b + k) (by omega) (by omega), A_148, gd_in (by omega) (by omega), F_142_13, A_144, gd_in (by omega) (by omega), h.2.2.1, hk3.2]
  unfold law
  refine Tr_if (fun c => ?_) (fun c => ?_)
  · rw [if_pos (Or.inl c)]; exact Tr_ret ⟨rfl, frT_rfl V⟩
  refine Tr_if (fun c2 => ?_) (fun c2 => ?_)
  · rw [if_neg (by omega)]; exact hJ
  refine Tr_if (fun c3 => ?_) (fun c3 => ?_)
  · rw [tmod_e hp] at c3
    rw [if_neg (by omega)]; exact hJ
  · rw [tmod_e hp] at c3
    rw [if_pos (by omega)]; exact Tr_ret ⟨rfl, frT_rfl V⟩
theorem hold_b {G : GM} (hG : GOK G) {r p k g : Int} (h2 : 2 ≤ qK G r) (h0 : 0 ≤ r) (hr : r < qR G) (hp : 0 ≤ p) (hk : 0 ≤ k ∧ k < qP G) (hg : 0 ≤ g ∧ g ≤ qF G) : hold G r p k g = qT G r (spt G p k) g (p % 2) (spt G (beh G p k g) 0) (spt G (beh G p k g) 1) := by
  have i1 := hG.2.2.2.2.2.2.2.2.1
  have g2 := hG.2.1
  have s0 := spt_beh hG (j := 0) hp hk hg (by omega)
  unfold hold
  rcases P_cases g2 with e | e | e
  · omega
  · rw [s0]
    have hk0 : k = 0 := by omega
    subst hk0
    rw [if_pos ⟨h2, rfl⟩, if_pos rfl]
    exact i1 r _ _ _ _ _ _ h0 hr (by omega)
  · have s1 := spt_beh hG (j := 1) hp hk hg (by omega)
    rw [s0, s1]
    have : k = 0 ∨ k = 1 := by omega
    rcases this with e' | e' <;> subst e'
    · rw [if_pos ⟨h2, rfl⟩, if_neg (by omega), if_pos rfl, if_neg (by decide)]
    · rw [if_neg (by omega), if_pos ⟨h2, rfl⟩, if_neg (by decide), if_pos rfl]
theorem lead_loop {G : GM} {b : Int} {s : SL} {V : ASt} (hG : GOK G) (hs' : SOK G s) (h : rG G b V) (hs : rS G s V) (hT : rT G b V) {p k g : Int} (hp : 0 ≤ p) (hk : 0 ≤ k ∧ k < qP G) (hg : 0 ≤ g ∧ g ≤ qF G) : ∀ (n : Nat) (i : Int) (W : ASt), i + 1 < n → -1 ≤ i → i < qR G → frT V W → mom G W p k g (beh G p k g) →
    Tr (b_M_leads_L51 S0 142 (beh G p k g) n W i) (fun x U => x = leadS G s p k g (i + 1).toNat ∧ frT V U) := by
  intro n
  induction n with
  | zero => intro i W h1 h2; omega
  | succ n ih =>
    intro i W hi h1 h2 hW hm
    have hR := hG.2.2.1
    rw [b_M_leads_L51]
    refine Tr_if (fun c => ?_) (fun c => ?_)
    · have : i = -1 := by omega
      subst this
      exact Tr_ret ⟨rfl, hW⟩
    have gW : rG G b W := rG_fr (fun a a1 a2 => hW a (by omega) (by omega)) h
    have sW : rS G s W := rS_fr (fun a a1 a2 => hW a (by omega) (by omega)) hs
    have tW : rT G b W := rT_fr (fun a a1 a2 => hW a (by omega) (by omega)) hT
    have a1 := (sW i (by omega) h2).1
    have ra := hs'.1 i (by omega) h2
    have a2 := sW (sA s i) ra.1 ra.2
    have kk := hG.2.2.2.2.2.2.1 (sA s i) ra.1 ra.2
    have hk' := kNow_lt (G := G) (s := s) (r := sA s i) ⟨kk.2.1, kk.2.2.1⟩
    have gF := hG.1
    have hbr := beh_r hG (k := k) hp hg
    rw [toNat_s (by omega), leadS, cast_t (by omega)]
    rw [F_142_44, A_169, gd_in (by omega) (by omega), F_142_45, a1, A_170, gd_in (by omega) (by omega), a2.2.1]
    have ih' := fun (U : ASt) hU hmU => ih (i + -1) U (by omega) (by omega) (by omega) hU hmU
    rw [show (i + -1 + 1).toNat = i.toNat by omega] at ih'
    rw [w32_id (x := i + -1) (by omega) (by omega)]
    refine Tr_if (fun c1 => ?_) (fun c1 => ?_)
    · refine Tr_bq (M_kindNow hG gW sW ra.1 ra.2) ?_
      refine Tr_if (fun c2 => ?_) (fun c2 => ?_)
      · rw [if_neg (by omega)]
        exact ih' W hW hm
      · refine Tr_bnd (M_holds hG gW tW hm hp hbr.1 (by omega) ra.1 ra.2) ?_
        rintro x U ⟨hx, hU⟩
        have fU : frT V U := fun a b1 b2 => by rw [hU a b1, hW a b1 b2]
        have mU : mom G U p k g (beh G p k g) := by unfold mom; rw [hU 168 (by decide)]; exact hm
        have hh : hold G (sA s i) p k g = x := by
          rw [hx]; exact hold_b hG (by omega) ra.1 ra.2 hp hk hg
        have hz := hG.2.2.2.2.2.2.2.1 (sA s i) (spt G p k) g (p % 2) (spt G (beh G p k g) 0) (spt G (beh G p k g) 1)
        refine Tr_if (fun c5 => ?_) (fun c5 => ?_)
        · rw [if_neg (by omega)]
          exact ih' U fU mU
        · rw [if_pos ⟨c1, by omega, by omega⟩]
          refine Tr_bq (M_kindNow hG (rG_fr (fun a a1 a2 => fU a (by omega) (by omega)) h) (rS_fr (fun a a1 a2 => fU a (by omega) (by omega)) hs) ra.1 ra.2) ?_
          refine Tr_if (fun c6 => ?_) (fun c6 => ?_)
          · rw [if_pos c6]; exact Tr_ret ⟨rfl, fU⟩
          · rw [if_neg c6]; exact Tr_ret ⟨rfl, fU⟩
    · rw [if_neg (fun q => c1 q.1)]
      exact ih' W hW hm
theorem M_leads {G : GM} {b : Int} {s : SL} {V : ASt} (hG : GOK G) (hs' : SOK G s) (h : rG G b V) (hs : rS G s V) (hT : rT G b V) {p k g : Int} (hp : 0 ≤ p) (hp2 : p < 2147483648) (hk : 0 ≤ k) (hk2 : k < qP G) (hg : 0 ≤ g ∧ g ≤ qF G) :
    Tr (f_M_leads S0 V 142 p k g) (fun x U => x = lead G s p k g ∧ frT V U) := by
  have gF := hG.1
  have hbr := beh_r hG (k := k) hp hg
  have hbq := qPos_le hG
  unfold f_M_leads
  refine Tr_gd O_142 (Tr_bq (M_behind hG h hp hp2 hk hk2 (by omega)) (Tr_bq (M_spotOf hG h hp hp2 hk hk2) ?_))
  rw [F_142_43, A_168, gd_in (by decide) (by decide)]
  refine Tr_set (fun V1 e1 n1 => ?_)
  rw [A_168, gd_in (by decide) (by decide)]
  refine Tr_set (fun V2 e2 n2 => ?_)
  rw [A_168, gd_in (by decide) (by decide)]
  refine Tr_set (fun V3 e3 n3 => ?_)
  have n3' : ∀ a, a ≠ 168 → V3 a = V a := fun a ha => by rw [n3 a ha, n2 a ha, n1 a ha]
  refine Tr_bnd (M_names hG (rG_fr (fun a a1 a2 => n3' a (by omega)) h) hbr.1 (by omega)) ?_
  rintro x U ⟨u1, u2, u3, u4⟩
  have fU : frT V U := fun a b1 b2 => by rw [u1 a b2, n3' a b2]
  refine Tr_bq (M_rulesAll (rG_fr (fun a a1 a2 => fU a (by omega) (by omega)) h)) ?_
  have hR := hG.2.2.1
  rw [w32_id (by omega) (by omega)]
  have hl := lead_loop hG hs' h hs hT (p := p) (k := k) (g := g) hp ⟨hk, hk2⟩ hg FU (qR G - 1) U (by rw [FU_v]; omega) (by omega) (by omega) fU ⟨?_, ?_, ?_, u2, u3⟩
  · rw [show (qR G - 1 + 1) = qR G by omega] at hl
    exact hl
  · rw [u4 1 (by decide) (by decide), e3, upI_n _ _ (by decide), e2, upI_n _ _ (by decide), e1, upI_s]
  · rw [u4 2 (by decide) (by decide), e3, upI_n _ _ (by decide), e2, upI_s]
  · rw [u4 3 (by decide) (by decide), e3, upI_s, tmod_e hp]
