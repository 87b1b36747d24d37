/-! the class's values: solving, to its end -/
def PB (M : Int → List Int) (u : Int) (D : Int → Prop) (L w t lf Q : Int → Int) (n x N : Int) : Prop :=
  BQ D w t Q n ∧ (∀ i, 0 ≤ i → i < n → t (Q i) ≤ 1) ∧
  (∀ k, 0 ≤ k → k < N → (M (L k) = [] → w (L k) = u ∧ (u ≠ 0 → t (L k) = 0)) ∧ (M (L k) ≠ [] → x ≤ k → w (L k) = 0) ∧ (k < x → lf (L k) = rem (fun _ => 0) (M (L k))) ∧
    (M (L k) ≠ [] → k < x → (w (L k) = 1 ∧ t (L k) = 1 ∧ -1 ∈ M (L k)) ∨ (w (L k) = -1 ∧ t (L k) = 1 ∧ ∀ e, e ∈ M (L k) → e < 0 ∧ e ≠ -1) ∨ (w (L k) = 0 ∧ (∀ e, e ∈ M (L k) → e ≠ -1) ∧ 0 < rem (fun _ => 0) (M (L k)))))
theorem PB_of {M : Int → List Int} {u : Int} {D : Int → Prop} {L w t lf Q : Int → Int} {n N : Int} (hA : PA M u L w t Q n N) (hD : ∀ k, 0 ≤ k → k < N → D (L k)) (hD2 : ∀ q, D q → ∃ k, 0 ≤ k ∧ k < N ∧ L k = q) : PB M u D L w t lf Q n 0 N := by
  obtain ⟨a0, a1, a2, a3⟩ := hA
  have hq : ∀ i, 0 ≤ i → i < n → D (Q i) ∧ w (Q i) ≠ 0 ∧ t (Q i) = 0 := fun i i0 i1 => by
    obtain ⟨k, k0, k1, k2, k3, k4⟩ := a1 i i0 i1
    have := (a3 k k0 k1).1 k3
    rw [k2]
    exact ⟨hD k k0 k1, by omega, (this.2 k4).1⟩
  refine ⟨⟨a0.1, fun i i0 i1 => by have := hq i i0 i1; exact ⟨this.1, this.2.1, by omega⟩, a2, fun q d hw => ?_, fun i j i0 ij j1 => by have := (hq i i0 (by omega)).2.2; have := (hq j (by omega) j1).2.2; omega⟩, fun i i0 i1 => by have := (hq i i0 i1).2.2; omega, fun k k0 k1 => ⟨fun hm => ⟨((a3 k k0 k1).1 hm).1, fun hu => (((a3 k k0 k1).1 hm).2 hu).1⟩, fun hm _ => (a3 k k0 k1).2 hm, fun z => by omega, fun _ z => by omega⟩⟩
  obtain ⟨k, k0, k1, k2⟩ := hD2 q d
  rw [← k2] at hw ⊢
  by_cases hm : M (L k) = []
  · have := (a3 k k0 k1).1 hm
    exact (this.2 (by omega)).2
  · exact absurd ((a3 k k0 k1).2 hm) hw
theorem BI_of {M : Int → List Int} {u : Int} {D : Int → Prop} {L w t lf Q : Int → Int} {n N : Int} (hB : PB M u D L w t lf Q n N N) (hc : cl M D) (hD2 : ∀ q, D q → ∃ k, 0 ≤ k ∧ k < N ∧ L k = q) (p : Int) : BI M u D w t lf Q n 0 (fun _ => 0) p (fun _ => 0) := by
  obtain ⟨b1, b2, b3⟩ := hB
  have hpos : ∀ e, D e → w e ≠ 0 → 0 ≤ t e := fun e d hw => by
    obtain ⟨i, i0, i1, i2⟩ := b1.2.2.2.1 e d hw
    rw [← i2]; exact (b1.2.1 i i0 i1).2.2
  refine ⟨b1, ⟨Int.le_refl _, b1.1⟩, fun hn j j0 j1 => by have := b2 j j0 j1; have := (b1.2.1 0 (by omega) hn).2.2; omega, fun _ => Or.inl rfl, fun e d => ⟨fun z => absurd z (by decide), fun ⟨i, i0, i1, _⟩ => by omega⟩, fun q d => ?_, fun q d => ⟨fun hm => ?_, fun hm => ?_⟩⟩
  · obtain ⟨k, k0, k1, k2⟩ := hD2 q d
    rw [← k2]
    have := (b3 k k0 k1).2.2.1 k1
    dsimp only
    omega
  · obtain ⟨k, k0, k1, k2⟩ := hD2 q d
    rw [← k2] at hm ⊢
    exact (b3 k k0 k1).1 hm
  · obtain ⟨k, k0, k1, k2⟩ := hD2 q d
    have h3 := (b3 k k0 k1).2.2.2
    have h4 := (b3 k k0 k1).2.2.1 k1
    rw [k2] at h3 h4
    rcases h3 hm k1 with ⟨c1, c2, c3⟩ | ⟨c1, c2, c3⟩ | ⟨c1, c2, c3⟩
    · refine Or.inl ⟨c1, by omega, ⟨-1, c3, Or.inl ⟨rfl, c2⟩⟩, fun e he => ⟨fun _ => by omega, fun e0 hw => ?_⟩⟩
      have := hpos e (hc q d e he e0) (by omega)
      omega
    · obtain ⟨e, he⟩ := List.exists_mem_of_ne_nil _ hm
      exact Or.inr (Or.inl ⟨c1, by omega, ⟨e, he, Or.inl ⟨(c3 e he).1, c2⟩⟩, fun e he => ⟨(c3 e he).2, fun e0 => by have := (c3 e he).1; omega⟩⟩)
    · refine Or.inr (Or.inr ⟨c1, fun e he => ⟨c2 e he, fun _ z => ?_⟩, by omega⟩)
      rcases z with z | z
      · exact absurd z (by decide)
      · exact absurd z.2 (by decide)
theorem BQ_200 {D : Int → Prop} {w t Q : Int → Int} {n : Int} (h : BQ D w t Q n) (hD : ∀ q, D q → 0 ≤ q ∧ q < 200) : n ≤ 200 :=
  pigeonI (f := Q) h.1 (by decide) (fun i a b => hD _ (h.2.1 i a b).1) h.2.2.1
theorem BQ_199 {D : Int → Prop} {w t Q : Int → Int} {n q : Int} (h : BQ D w t Q n) (hD : ∀ q, D q → 0 ≤ q ∧ q < 200) (hq : D q) (h0 : w q = 0) : n < 200 :=
  pigeonX (f := Q) (p := q) h.1 (hD q hq) (fun i a b => hD _ (h.2.1 i a b).1) h.2.2.1 (fun i a b e => by have := (h.2.1 i a b).2.1; rw [e] at this; exact this h0)
/-- settling one that ends, or not, ahead of the rounds -/
theorem PB_step {M : Int → List Int} {u : Int} {D : Int → Prop} {L w t lf Q : Int → Int} {n x N y : Int} (hB : PB M u D L w t lf Q n x N) (hx : 0 ≤ x ∧ x < N) (hD : D (L x)) (hinj : ∀ k, 0 ≤ k → k < N → k ≠ x → L k ≠ L x) (hm : M (L x) ≠ [])
    (hy : (y = 1 ∧ -1 ∈ M (L x)) ∨ (y = -1 ∧ ∀ e, e ∈ M (L x) → e < 0 ∧ e ≠ -1)) : PB M u D L (upI w (L x) y) (upI t (L x) 1) (upI lf (L x) (rem (fun _ => 0) (M (L x)))) (upI Q n (L x)) (n + 1) (x + 1) N := by
  obtain ⟨b1, b2, b3⟩ := hB
  have h0 := (b3 x hx.1 hx.2).2.1 hm (Int.le_refl _)
  have hne : ∀ i, 0 ≤ i → i < n → Q i ≠ L x := fun i a b e => by have := (b1.2.1 i a b).2.1; rw [e] at this; exact this h0
  refine ⟨BQ_put b1 hD h0 (by rcases hy with z | z <;> omega) (by decide) b2, fun i i0 i1 => ?_, fun k k0 k1 => ?_⟩
  · by_cases c : i = n
    · rw [c, upI_s, upI_s]; exact Int.le_refl _
    · rw [upI_n _ _ c, upI_n _ _ (hne i i0 (by omega))]; exact b2 i i0 (by omega)
  · by_cases c : k = x
    · subst c
      rw [upI_s, upI_s, upI_s]
      refine ⟨fun z => absurd z hm, fun _ z => by omega, fun _ => rfl, fun _ _ => ?_⟩
      rcases hy with z | z
      · exact Or.inl ⟨z.1, rfl, z.2⟩
      · exact Or.inr (Or.inl ⟨z.1, rfl, z.2⟩)
    · have hk := hinj k k0 k1 c
      rw [upI_n _ _ hk, upI_n _ _ hk, upI_n _ _ hk]
      have := b3 k k0 k1
      exact ⟨this.1, fun z1 z2 => this.2.1 z1 (by omega), fun z => this.2.2.1 (by omega), fun z1 z2 => this.2.2.2 z1 (by omega)⟩
theorem PB_none {M : Int → List Int} {u : Int} {D : Int → Prop} {L w t lf Q : Int → Int} {n x N : Int} (hB : PB M u D L w t lf Q n x N) (hx : 0 ≤ x ∧ x < N) (hinj : ∀ k, 0 ≤ k → k < N → k ≠ x → L k ≠ L x)
    (hy : M (L x) ≠ [] → (∀ e, e ∈ M (L x) → e ≠ -1) ∧ 0 < rem (fun _ => 0) (M (L x))) : PB M u D L w t (upI lf (L x) (rem (fun _ => 0) (M (L x)))) Q n (x + 1) N := by
  obtain ⟨b1, b2, b3⟩ := hB
  refine ⟨b1, b2, fun k k0 k1 => ?_⟩
  by_cases c : k = x
  · subst c
    rw [upI_s]
    have := b3 k k0 k1
    refine ⟨this.1, fun _ z => by omega, fun _ => rfl, fun hm _ => Or.inr (Or.inr ⟨this.2.1 hm (Int.le_refl _), hy hm⟩)⟩
  · have hk := hinj k k0 k1 c
    rw [upI_n _ _ hk]
    have := b3 k k0 k1
    exact ⟨this.1, fun z1 z2 => this.2.1 z1 (by omega), fun z => this.2.2.1 (by omega), fun z1 z2 => this.2.2.2 z1 (by omega)⟩
theorem so_L42 {G : GM} {s : SL} {v m z : Int} {V : ASt} (hG : GOK G) (hs : SOK G s) (hv : isVl v m z) (hL : LDC G s m V (V m 1)) {Q : Int → ASt → Prop}
    (hK : ∀ W : ASt, frV v z V W → PB (nx G s) (qU G - 1) (lP m V) (V (m + 1)) (W z) (W (z + 1)) (W (z + 2)) (W (z + 5)) (W v 8) (V m 1) (V m 1) → Tr (b_Values_solve_L73 S0 v FU W 0) Q) :
    ∀ (n : Nat) (x : Int) (W : ASt), 0 ≤ x → x ≤ V m 1 → V m 1 - x < n → frV v z V W → PB (nx G s) (qU G - 1) (lP m V) (V (m + 1)) (W z) (W (z + 1)) (W (z + 2)) (W (z + 5)) (W v 8) x (V m 1) → Tr (b_Values_solve_L42 S0 v n W x) Q := by
  have hvv := hv
  unfold isVl at hvv
  have hm := isVl_m hv
  have h200 := hL.1.2.1
  intro n
  induction n with
  | zero => intro x W h1 h2; omega
  | succ n ih =>
    intro x W x0 x1 hn fW hB
    have cm : W m = V m := fW.1 m (by omega) (by omega) (by omega) (by omega) (by omega)
    have cm1 : W (m + 1) = V (m + 1) := fW.1 _ (by omega) (by omega) (by omega) (by omega) (by omega)
    rw [b_Values_solve_L42, FV_1 hv, gd_t (OM hm), cm]
    refine Tr_if (fun c => ?_) (fun c => ?_)
    · have : x = V m 1 := by omega
      subst this
      exact hK W fW hB
    refine Tr_bq (M_listedAt hm (i := x) x0 (by rw [cm]; omega) (by rw [cm]; exact h200)) ?_
    rw [cm1, w32_id (x := x + 1) (by omega) (by omega)]
    have hp := LDC_in hG hL x0 (by omega)
    have hat := LDC_at hG hL hp
    have hinj : ∀ k, 0 ≤ k → k < V m 1 → k ≠ x → V (m + 1) k ≠ V (m + 1) x := fun k k0 k1 hne e => hne (hL.1.2.2.2.1 k x k0 k1 x0 (by omega) e)
    have vW : mvH G s m W (V (m + 1) x) := by
      have := hat.2.1
      unfold mvH cdH at *
      rw [fW.1 (m + 3) (by omega) (by omega) (by omega) (by omega) (by omega), fW.1 (m + 4) (by omega) (by omega) (by omega) (by omega) (by omega), fW.1 (m + 5) (by omega) (by omega) (by omega) (by omega) (by omega)]
      exact this
    have h12 := nx_12 hG hs (V (m + 1) x)
    have hst := PB_step (y := 1) hB ⟨x0, by omega⟩ hp hinj
    have hst2 := PB_step (y := -1) hB ⟨x0, by omega⟩ hp hinj
    have hno := PB_none hB ⟨x0, by omega⟩ hinj
    have hB0 := (hB.2.2 x x0 (by omega)).2.1
    have hcap := fun h0 => BQ_199 hB.1 (fun q hq => ⟨hq.1, hq.2.1⟩) hp h0
    have hlen0 := hB.1.1
    generalize hq : V (m + 1) x = q at *
    refine Tr_bnd (P := fun _ U => frV v z V U ∧ PB (nx G s) (qU G - 1) (lP m V) (V (m + 1)) (U z) (U (z + 1)) (U (z + 2)) (U (z + 5)) (U v 8) (x + 1) (V m 1)) ?_ (fun r U hU => ih (x + 1) U (by omega) (by omega) (by omega) hU.1 hU.2)
    unfold f_Values_settleIfEnding
    rw [gd_t (OV hv), V_leading hG hs hv ⟨hp.1, hp.2.1⟩ vW, bnd_e, FV_4 hv, AV2 hv, gd_in hp.1 hp.2.1]
    refine Tr_set (fun V1 e1 n1 => ?_)
    have f1 : frV v z V V1 := ⟨fun a b1 b2 b3 b4 b5 => by rw [n1 a b4, fW.1 a b1 b2 b3 b4 b5], fun k hk => by rw [n1 v (by omega), fW.2 k hk]⟩
    have v1 : mvH G s m V1 q := by
      unfold mvH cdH at *
      rw [n1 (m + 3) (by omega), n1 (m + 4) (by omega), n1 (m + 5) (by omega)]; exact vW
    have r0 : V1 z = W z := n1 z (by omega)
    have r1 : V1 (z + 1) = W (z + 1) := n1 _ (by omega)
    have r5 : V1 (z + 5) = W (z + 5) := n1 _ (by omega)
    have rv : V1 v = W v := n1 v (by omega)
    have hset : ∀ y, nx G s q ≠ [] → PB (nx G s) (qU G - 1) (lP m V) (V (m + 1)) (upI (W z) q y) (upI (W (z + 1)) q 1) (upI (W (z + 2)) q (rem (fun _ => 0) (nx G s q))) (upI (W (z + 5)) (W v 8) q) (W v 8 + 1) (x + 1) (V m 1) → Tr (f_Values_settle S0 V1 v q y 1) (fun _ U => frV v z V U ∧ PB (nx G s) (qU G - 1) (lP m V) (V (m + 1)) (U z) (U (z + 1)) (U (z + 2)) (U (z + 5)) (U v 8) (x + 1) (V m 1)) := by
      intro y hm' hpb
      have := hcap (hB0 hm' (Int.le_refl _))
      refine Tr_mono (V_settle hv (by rw [rv]; exact hlen0) (by rw [rv]; exact this) ⟨hp.1, hp.2.1⟩) ?_
      rintro r U ⟨u1, u2, u3, u4, u5⟩
      refine ⟨⟨fun a b1 b2 b3 b4 b5 => by rw [u5 a b1 b2 b3 b5, f1.1 a b1 b2 b3 b4 b5], fun k hk => by rw [u4, upI_n _ _ hk, f1.2 k hk]⟩, ?_⟩
      rw [u1, u2, u3, u4, r0, r1, r5, rv, upI_s (W v), u5 (z + 2) (by omega) (by omega) (by omega) (by omega), e1]
      exact hpb
    have hl : ∀ (f j : Nat) (x2 : Int), j ≤ (nx G s q).length → (nx G s q).length - j < f → ((x2 = 0 ∧ ∀ i : Nat, i < j → (nx G s q).getD i 0 ≠ -1) ∨ (x2 = 1 ∧ -1 ∈ nx G s q)) → Tr (b_Values_settleIfEnding_L15 S0 v q f V1 x2 j) (fun _ U => frV v z V U ∧ PB (nx G s) (qU G - 1) (lP m V) (V (m + 1)) (U z) (U (z + 1)) (U (z + 2)) (U (z + 5)) (U v 8) (x + 1) (V m 1)) := by
      intro f
      induction f with
      | zero => intro j x2 h1 h2; omega
      | succ f ihf =>
        intro j x2 hj hf hx2
        rw [b_Values_settleIfEnding_L15, FV_1 hv, gd_t (OM hm)]
        refine Tr_bq (M_countOf hm ⟨hp.1, hp.2.1⟩ v1) ?_
        refine Tr_if (fun c1 => ?_) (fun c1 => ?_)
        · rcases hx2 with ⟨y1, y2⟩ | ⟨y1, y2⟩
          · refine Tr_t y1 ?_
            have hall : ∀ e, e ∈ nx G s q → e ≠ -1 := (all_idx (P := fun e => e ≠ -1)).mpr fun i hi => y2 i (by omega)
            have el : V1 (z + 2) q = rem (fun _ => 0) (nx G s q) := by rw [e1, upI_s]
            have hret : (nx G s q ≠ [] → 0 < rem (fun _ => 0) (nx G s q)) → Tr (some ((0 : Int), V1)) (fun _ U => frV v z V U ∧ PB (nx G s) (qU G - 1) (lP m V) (V (m + 1)) (U z) (U (z + 1)) (U (z + 2)) (U (z + 5)) (U v 8) (x + 1) (V m 1)) := by
              intro hh
              refine Tr_ret ⟨f1, ?_⟩
              rw [r0, r1, r5, rv, e1]
              exact hno fun hm' => ⟨hall, hh hm'⟩
            rw [FV_4 hv, AV2 hv, gd_in hp.1 hp.2.1, el]
            have hr := rem_r (pr := fun _ => 0) (fun _ => Or.inl rfl) (nx G s q)
            refine Tr_if (fun c2 => ?_) (fun c2 => ?_)
            · refine Tr_bq (M_countOf hm ⟨hp.1, hp.2.1⟩ v1) ?_
              refine Tr_if (fun c3 => ?_) (fun c3 => ?_)
              · exact hret fun hm' => absurd (List.length_eq_zero_iff.mp (by omega)) hm'
              · have hm' : nx G s q ≠ [] := fun e => by rw [e] at c3; exact c3 (Int.le_refl _)
                have h0 := rem_0 (pr := fun _ => 0) (fun _ => Or.inl rfl) (nx G s q) c2
                refine Tr_bnd (hset (-1) hm' (hst2 hm' (Or.inr ⟨rfl, fun e he => ⟨?_, hall e he⟩⟩))) (fun r U hU => Tr_ret hU)
                refine Classical.byContradiction fun z => ?_
                have := h0 e he (by omega)
                exact absurd this (by decide)
            · exact hret fun _ => by omega
          · refine Tr_f (by omega) ?_
            have hm' : nx G s q ≠ [] := fun e => by rw [e] at y2; cases y2
            exact Tr_bnd (hset 1 hm' (hst hm' (Or.inl ⟨rfl, y2⟩))) (fun r U hU => Tr_ret hU)
        · have hjl : j < (nx G s q).length := by omega
          refine Tr_bq (M_nextOf hG hs hm ⟨hp.1, hp.2.1⟩ v1 hjl) ?_
          rw [w32_id (x := (j : Int) + 1) (by omega) (by omega), show (j : Int) + 1 = ((j + 1 : Nat) : Int) by omega]
          have hmem := getD_mem hjl
          refine Tr_if (fun c2 => ?_) (fun c2 => ?_)
          · have ho : or32 x2 1 = 1 := by rcases hx2 with y | y <;> rw [y.1] <;> decide +kernel
            rw [ho]
            exact ihf (j + 1) 1 (by omega) (by omega) (Or.inr ⟨rfl, by rw [← c2]; exact hmem⟩)
          · have ho : or32 x2 0 = x2 := by rcases hx2 with y | y <;> rw [y.1] <;> decide +kernel
            rw [ho]
            refine ihf (j + 1) x2 (by omega) (by omega) ?_
            rcases hx2 with ⟨y1, y2⟩ | y
            · refine Or.inl ⟨y1, fun i hi => ?_⟩
              by_cases zi : i = j
              · rw [zi]; exact c2
              · exact y2 i (by omega)
            · exact Or.inr y
    exact hl FU 0 0 (Nat.zero_le _) (by rw [FU_v]; omega) (Or.inl ⟨rfl, fun i hi => absurd hi (Nat.not_lt_zero i)⟩)
