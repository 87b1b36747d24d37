/-! the reference: tests, isLawful, leads -/
theorem rG_fr {G : GM} {b : Int} {V W : ASt} (h : ∀ a, 142 ≤ a → a ≤ 159 → W a = V a) (g : rG G b V) : rG G b W := by
  unfold rG at *
  rw [h 142 (by decide) (by decide), h 144 (by decide) (by decide), h 145 (by decide) (by decide), h 147 (by decide) (by decide), h 148 (by decide) (by decide), h 149 (by decide) (by decide), h 150 (by decide) (by decide), h 151 (by decide) (by decide), h 152 (by decide) (by decide), h 153 (by decide) (by decide), h 154 (by decide) (by decide), h 155 (by decide) (by decide)]
  exact g
theorem rS_fr {G : GM} {s : SL} {V W : ASt} (h : ∀ a, 169 ≤ a → a ≤ 172 → W a = V a) (g : rS G s V) : rS G s W := by
  unfold rS at *
  rw [h 169 (by decide) (by decide), h 170 (by decide) (by decide), h 171 (by decide) (by decide), h 172 (by decide) (by decide)]
  exact g
/-- the reference's tests, by what running them gives -/
def rT (G : GM) (b : Int) (V : ASt) : Prop := ∀ r, 0 ≤ r → r < qR G → ∀ W : ASt, W 158 = V 158 → W 159 = V 159 → W 142 12 = b → (∀ j, 1 ≤ j → j ≤ 3 + qP G → 0 ≤ W 168 j ∧ W 168 j ≤ 9) →
  Tr (f_M_works S0 W 142 (V 156 (12 * b + r)) (V 157 (12 * b + r))) (fun x U => x = qT G r (W 168 1) (W 168 2) (W 168 3) (W 168 4) (W 168 5) ∧ ∀ a, a ≠ 167 → U a = W a)
theorem rT_fr {G : GM} {b : Int} {V W : ASt} (h : ∀ a, 156 ≤ a → a ≤ 159 → W a = V a) (g : rT G b V) : rT G b W := by
  unfold rT at *
  rw [h 156 (by decide) (by decide), h 157 (by decide) (by decide), h 158 (by decide) (by decide), h 159 (by decide) (by decide)]
  exact g
/-- U is V but for the rows that running tests uses -/
def frT (V U : ASt) : Prop := ∀ a, a ≠ 167 → a ≠ 168 → U a = V a
theorem frT_rfl (V : ASt) : frT V V := fun _ _ _ => rfl
theorem frT_tr {V U W : ASt} (h : frT V U) (h2 : frT U W) : frT V W := fun a h1 h3 => by rw [h2 a h1 h3, h a h1 h3]
/-- what the moment holds for a move p k g, names of position q -/
def mom (G : GM) (W : ASt) (p k g q : Int) : Prop := W 168 1 = spt G p k ∧ W 168 2 = g ∧ W 168 3 = p % 2 ∧ (0 < qP G → W 168 4 = spt G q 0) ∧ (1 < qP G → W 168 5 = spt G q 1)
theorem cmp_1 (x : Int) : (cmp64 x 1 = 0) ↔ x = 1 := by
  unfold cmp64
  by_cases h1 : 1 < x
  · rw [if_pos h1]; omega
  · rw [if_neg h1]
    by_cases h2 : x = 1
    · rw [if_pos h2]; omega
    · rw [if_neg h2]; omega
theorem M_holds {G : GM} {b : Int} {V : ASt} (hG : GOK G) (h : rG G b V) (hT : rT G b V) {p k g q r : Int} (hm : mom G V p k g q) (hp : 0 ≤ p) (hq : 0 ≤ q) (hg : 0 ≤ g ∧ g ≤ 9) (h0 : 0 ≤ r) (hr : r < qR G) :
    Tr (f_M_holds S0 V 142 r) (fun x U => x = qT G r (spt G p k) g (p % 2) (spt G q 0) (spt G q 1) ∧ ∀ a, a ≠ 167 → U a = V a) := by
  have hto := M_told h (r := r) h0 (by have := hG.2.2.1; omega)
  have hb := h.1
  have hb2 := h.2.1
  obtain ⟨m1, m2, m3, m4, m5⟩ := hm
  have s1 := spt_r hG p k hp
  have s2 := spt_r hG q 0 hq
  have s3 := spt_r hG q 1 hq
  have g1 := hG.1
  have g2 := hG.2.1
  have hw := hT r h0 hr V rfl rfl hb (by
    intro j j1 j2
    have : j = 1 ∨ j = 2 ∨ j = 3 ∨ j = 4 ∨ j = 5 := by omega
    rcases this with e | e | e | e | e <;> subst e
    · rw [m1]; omega
    · rw [m2]; omega
    · rw [m3]; omega
    · rw [m4 (by omega)]; omega
    · rw [m5 (by omega)]; omega)
  have e : qT G r (V 168 1) (V 168 2) (V 168 3) (V 168 4) (V 168 5) = qT G r (spt G p k) g (p % 2) (spt G q 0) (spt G q 1) := by
    rw [m1, m2, m3]
    have i1 := hG.2.2.2.2.2.2.2.2.1
    have i0 := hG.2.2.2.2.2.2.2.2.2
    rcases P_cases g2 with e | e | e
    · exact i0 r _ _ _ _ _ _ _ h0 hr (by omega)
    · rw [m4 (by omega)]
      exact i1 r _ _ _ _ _ _ h0 hr (by omega)
    · rw [m4 (by omega), m5 (by omega)]
  have hz := hG.2.2.2.2.2.2.2.1 r (V 168 1) (V 168 2) (V 168 3) (V 168 4) (V 168 5)
  rw [e] at hw hz
  unfold f_M_holds
  have hR := hG.2.2.1
  refine Tr_gd O_142 (Tr_bq hto ?_)
  rw [F_142_25, A_156]
  rw [gd_in (by omega) (by omega)]
  refine Tr_bq hto ?_
  rw [F_142_26, A_157, gd_in (by omega) (by omega)]
  refine Tr_bnd hw ?_
  rintro x U ⟨hx, hU⟩
  subst hx
  rcases hz with hz | hz
  · rw [hz]
    exact Tr_f (by decide) (Tr_ret ⟨rfl, hU⟩)
  · rw [hz]
    exact Tr_t (by decide) (Tr_ret ⟨rfl, hU⟩)
