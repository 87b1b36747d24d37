/-! the class's values: solving, to its end -/
def PB (M : Int → List Int) (u : Int) (D : Int → Prop) (L w t lf Q : Int → Int) (n x N : Int) : Prop :=
  BQ D w t Q n ∧ (∀ i, 0 ≤ i → i < n → t (Q i) ≤ 1) ∧
  (∀ k, 0 ≤ k → k < N → (M (L k) = [] → w (L k) = u ∧ (u ≠ 0 → t (L k) = 0)) ∧ (M (L k) ≠ [] → x ≤ k → w (L k) = 0) ∧ (k < x → lf (L k) = rem (fun _ => 0) (M (L k))) ∧
    (M (L k) ≠ [] → k < x → (w (L k) = 1 ∧ t (L k) = 1 ∧ -1 ∈ M (L k)) ∨ (w (L k) = -1 ∧ t (L k) = 1 ∧ ∀ e, e ∈ M (L k) → e < 0 ∧ e ≠ -1) ∨ (w (L k) = 0 ∧ (∀ e, e ∈ M (L k) → e ≠ -1) ∧ 0 < rem (fun _ => 0) (M (L k)))))
theorem PB_of {M : Int → List Int} {u : Int} {D : Int → Prop} {L w t lf Q : Int → Int} {n N : Int} (hA : PA M u L w t Q n N) (hD : ∀ k, 0 ≤ k → k < N → D (L k)) (hD2 : ∀ q, D q → ∃ k, 0 ≤ k ∧ k < N ∧ L k = q) : PB M u D L w t lf Q n 0 N := by
  obtain ⟨a0, a1, a2, a3⟩ := hA
  have hq : ∀ i, 0 ≤ i → i < n → D (Q i) ∧ w (Q i) ≠ 0 ∧ t (Q i) = 0 := fun i i0 i1 => by
    obtain ⟨k, k0, k1, k2, k3, k4⟩ := a1 i i0 i1
    have := (a3 k k0 k1).1 k3
    rw [k2]
    exact ⟨hD k k0 k1, by omega, (this.2 k4).1⟩
  refine ⟨⟨a0.1, fun i i0 i1 => by have := hq i i0 i1; exact ⟨this.1, this.2.1, by omega⟩, a2, fun q d hw => ?_, fun i j i0 ij j1 => by have := (hq i i0 (by omega)).2.2; have := (hq j (by omega) j1).2.2; omega⟩, fun i i0 i1 => by have := (hq i i0 i1).2.2; omega, fun k k0 k1 => ⟨fun hm => ⟨((a3 k k0 k1).1 hm).1, fun hu => (((a3 k k0 k1).1 hm).2 hu).1⟩, fun hm _ => (a3 k k0 k1).2 hm, fun z => by omega, fun _ z => by omega⟩⟩
  obtain ⟨k, k0, k1, k2⟩ := hD2 q d
  rw [← k2] at hw ⊢
  by_cases hm : M (L k) = []
  · have := (a3 k k0 k1).1 hm
    exact (this.2 (by omega)).2
  · exact absurd ((a3 k k0 k1).2 hm) hw
theorem BI_of {M : Int → List Int} {u : Int} {D : Int → Prop} {L w t lf Q : Int → Int} {n N : Int} (hB : PB M u D L w t lf Q n N N) (hc : cl M D) (hD2 : ∀ q, D q → ∃ k, 0 ≤ k ∧ k < N ∧ L k = q) (p : Int) : BI M u D w t lf Q n 0 (fun _ => 0) p (fun _ => 0) := by
  obtain ⟨b1, b2, b3⟩ := hB
  have hpos : ∀ e, D e → w e ≠ 0 → 0 ≤ t e := fun e d hw => by
    obtain ⟨i, i0, i1, i2⟩ := b1.2.2.2.1 e d hw
    rw [← i2]; exact (b1.2.1 i i0 i1).2.2
  refine ⟨b1, ⟨Int.le_refl _, b1.1⟩, fun hn j j0 j1 => by have := b2 j j0 j1; have := (b1.2.1 0 (by omega) hn).2.2; omega, fun _ => Or.inl rfl, fun e d => ⟨fun z => absurd (show (0 : Int) = 1 from z) (by decide), fun ⟨i, i0, i1, _⟩ => by omega⟩, fun q d => ?_, fun q d => ⟨fun hm => ?_, fun hm => ?_⟩⟩
  · obtain ⟨k, k0, k1, k2⟩ := hD2 q d
    rw [← k2]
    have := (b3 k k0 k1).2.2.1 k1
    dsimp only
    omega
  · obtain ⟨k, k0, k1, k2⟩ := hD2 q d
    rw [← k2] at hm ⊢
    exact (b3 k k0 k1).1 hm
  · obtain ⟨k, k0, k1, k2⟩ := hD2 q d
    have h3 := (b3 k k0 k1).2.2.2
    have h4 := (b3 k k0 k1).2.2.1 k1
    rw [k2] at h3 h4
    rcases h3 hm k1 with ⟨c1, c2, c3⟩ | ⟨c1, c2, c3⟩ | ⟨c1, c2, c3⟩
    · refine Or.inl ⟨c1, by omega, ⟨-1, c3, Or.inl ⟨rfl, c2⟩⟩, fun e he => ⟨fun _ => by omega, fun e0 hw => ?_⟩⟩
      have := hpos e (hc q d e he e0) (by omega)
      omega
    · obtain ⟨e, he⟩ := List.exists_mem_of_ne_nil _ hm
      exact Or.inr (Or.inl ⟨c1, by omega, ⟨e, he, Or.inl ⟨(c3 e he).1, c2⟩⟩, fun e he => ⟨(c3 e he).2, fun e0 => by have := (c3 e he).1; omega⟩⟩)
    · refine Or.inr (Or.inr ⟨c1, fun e he => ⟨c2 e he, fun _ z => ?_⟩, by omega⟩)
      rcases z with z | z
      · exact absurd (show (0 : Int) = 1 from z) (by decide)
      · exact absurd (show (0 : Int) < 0 from z.2) (by decide)
theorem BQ_200 {D : Int → Prop} {w t Q : Int → Int} {n : Int} (h : BQ D w t Q n) (hD : ∀ q, D q → 0 ≤ q ∧ q < 200) : n ≤ 200 :=
  pigeonI (f := Q) h.1 (by decide) (fun i a b => hD _ (h.2.1 i a b).1) h.2.2.1
theorem BQ_199 {D : Int → Prop} {w t Q : Int → Int} {n q : Int} (h : BQ D w t Q n) (hD : ∀ q, D q → 0 ≤ q ∧ q < 200) (hq : D q) (h0 : w q = 0) : n < 200 :=
  pigeonX (f := Q) (p := q) h.1 (hD q hq) (fun i a b => hD _ (h.2.1 i a b).1) h.2.2.1 (fun i a b e => by have := (h.2.1 i a b).2.1; rw [e] at this; exact this h0)
/-- settling one that ends, or not, ahead of the rounds -/
theorem PB_step {M : Int → List Int} {u : Int} {D : Int → Prop} {L w t lf Q : Int → Int} {n x N y : Int} (hB : PB M u D L w t lf Q n x N) (hx : 0 ≤ x ∧ x < N) (hD : D (L x)) (hinj : ∀ k, 0 ≤ k → k < N → k ≠ x → L k ≠ L x) (hm : M (L x) ≠ [])
    (hy : (y = 1 ∧ -1 ∈ M (L x)) ∨ (y = -1 ∧ ∀ e, e ∈ M (L x) → e < 0 ∧ e ≠ -1)) : PB M u D L (upI w (L x) y) (upI t (L x) 1) (upI lf (L x) (rem (fun _ => 0) (M (L x)))) (upI Q n (L x)) (n + 1) (x + 1) N := by
  obtain ⟨b1, b2, b3⟩ := hB
  have h0 := (b3 x hx.1 hx.2).2.1 hm (Int.le_refl _)
  have hne : ∀ i, 0 ≤ i → i < n → Q i ≠ L x := fun i a b e => by have := (b1.2.1 i a b).2.1; rw [e] at this; exact this h0
  refine ⟨BQ_put b1 hD h0 (by rcases hy with z | z <;> omega) (by decide) b2, fun i i0 i1 => ?_, fun k k0 k1 => ?_⟩
  · by_cases c : i = n
    · rw [c, upI_s, upI_s]; exact Int.le_refl _
    · rw [upI_n _ _ c, upI_n _ _ (hne i i0 (by omega))]; exact b2 i i0 (by omega)
  · by_cases c : k = x
    · subst c
      rw [upI_s, upI_s, upI_s]
      refine ⟨fun z => absurd z hm, fun _ z => by omega, fun _ => rfl, fun _ _ => ?_⟩
      rcases hy with z | z
      · exact Or.inl ⟨z.1, rfl, z.2⟩
      · exact Or.inr (Or.inl ⟨z.1, rfl, z.2⟩)
    · have hk := hinj k k0 k1 c
      rw [upI_n _ _ hk, upI_n _ _ hk, upI_n _ _ hk]
      have := b3 k k0 k1
      exact ⟨this.1, fun z1 z2 => this.2.1 z1 (by omega), fun z => this.2.2.1 (by omega), fun z1 z2 => this.2.2.2 z1 (by omega)⟩
theorem PB_none {M : Int → List Int} {u : Int} {D : Int → Prop} {L w t lf Q : Int → Int} {n x N : Int} (hB : PB M u D L w t lf Q n x N) (hx : 0 ≤ x ∧ x < N) (hinj : ∀ k, 0 ≤ k → k < N → k ≠ x → L k ≠ L x)
    (hy : M (L x) ≠ [] → (∀ e, e ∈ M (L x) → e ≠ -1) ∧ 0 < rem (fun _ => 0) (M (L x))) : PB M u D L w t (upI lf (L x) (rem (fun _ => 0) (M (L x)))) Q n (x + 1) N := by
  obtain ⟨b1, b2, b3⟩ := hB
  refine ⟨b1, b2, fun k k0 k1 => ?_⟩
  by_cases c : k = x
  · subst c
    rw [upI_s]
    have := b3 k k0 k1
    refine ⟨this.1, fun _ z => by omega, fun _ => rfl, fun hm _ => Or.inr (Or.inr ⟨this.2.1 hm (Int.le_refl _), hy hm⟩)⟩
  · have hk := hinj k k0 k1 c
    rw [upI_n _ _ hk]
    have := b3 k k0 k1
    exact ⟨this.1, fun z1 z2 => this.2.1 z1 (by omega), fun z => this.2.2.1 (by omega), fun z1 z2 => this.2.2.2 z1 (by omega)⟩
theorem so_L42 {G : GM} {s : SL} {v m z : Int} {V : ASt} (hG : GOK G) (hs : SOK G s) (hv : isVl v m z) (hL : LDC G s m V (V m 1)) {Q : Int → ASt → Prop}
    (hK : ∀ W : ASt, frV v z V W → PB (nx G s) (qU G - 1) (lP m V) (V (m + 1)) (W z) (W (z + 1)) (W (z + 2)) (W (z + 5)) (W v 8) (V m 1) (V m 1) → Tr (b_Values_solve_L73 S0 v FU W 0) Q) :
    ∀ (n : Nat) (x : Int) (W : ASt), 0 ≤ x → x ≤ V m 1 → V m 1 - x < n → frV v z V W → PB (nx G s) (qU G - 1) (lP m V) (V (m + 1)) (W z) (W (z + 1)) (W (z + 2)) (W (z + 5)) (W v 8) x (V m 1) → Tr (b_Values_solve_L42 S0 v n W x) Q := by
  have hvv := hv
  unfold isVl at hvv
  have hm := isVl_m hv
  have h200 := hL.1.2.1
  intro n
  induction n with
  | zero => intro x W h1 h2; omega
  | succ n ih =>
    intro x W x0 x1 hn fW hB
    have cm : W m = V m := fW.1 m (by omega) (by omega) (by omega) (by omega) (by omega)
    have cm1 : W (m + 1) = V (m + 1) := fW.1 _ (by omega) (by omega) (by omega) (by omega) (by omega)
    rw [b_Values_solve_L42, FV_1 hv, gd_t (OM hm), cm]
    refine Tr_if (fun c => ?_) (fun c => ?_)
    · have : x = V m 1 := by omega
      subst this
      exact hK W fW hB
    refine Tr_bq (M_listedAt hm (i := x) x0 (by rw [cm]; omega) (by rw [cm]; exact h200)) ?_
    rw [cm1, w32_id (x := x + 1) (by omega) (by omega)]
    have hp := LDC_in hG hL x0 (by omega)
    have hat := LDC_at hG hL hp
    have hinj : ∀ k, 0 ≤ k → k < V m 1 → k ≠ x → V (m + 1) k ≠ V (m + 1) x := fun k k0 k1 hne e => hne (hL.1.2.2.2.1 k x k0 k1 x0 (by omega) e)
    have vW : mvH G s m W (V (m + 1) x) := by
      have := hat.2.1
      unfold mvH cdH at *
      rw [fW.1 (m + 3) (by omega) (by omega) (by omega) (by omega) (by omega), fW.1 (m + 4) (by omega) (by omega) (by omega) (by omega) (by omega), fW.1 (m + 5) (by omega) (by omega) (by omega) (by omega) (by omega)]
      exact this
    have h12 := nx_12 hG hs (V (m + 1) x)
    have hst := PB_step (y := 1) hB ⟨x0, by omega⟩ hp hinj
    have hst2 := PB_step (y := -1) hB ⟨x0, by omega⟩ hp hinj
    have hno := PB_none hB ⟨x0, by omega⟩ hinj
    have hB0 := (hB.2.2 x x0 (by omega)).2.1
    have hcap := fun h0 => BQ_199 hB.1 (fun q hq => ⟨hq.1, hq.2.1⟩) hp h0
    have hlen0 := hB.1.1
    generalize hq : V (m + 1) x = q at *
    refine Tr_bnd (P := fun _ U => frV v z V U ∧ PB (nx G s) (qU G - 1) (lP m V) (V (m + 1)) (U z) (U (z + 1)) (U (z + 2)) (U (z + 5)) (U v 8) (x + 1) (V m 1)) ?_ (fun r U hU => ih (x + 1) U (by omega) (by omega) (by omega) hU.1 hU.2)
    unfold f_Values_settleIfEnding
    rw [gd_t (OV hv), V_leading hG hs hv ⟨hp.1, hp.2.1⟩ vW, bnd_e, FV_4 hv, AV2 hv, gd_in hp.1 hp.2.1]
    refine Tr_set (fun V1 e1 n1 => ?_)
    have f1 : frV v z V V1 := ⟨fun a b1 b2 b3 b4 b5 => by rw [n1 a b4, fW.1 a b1 b2 b3 b4 b5], fun k hk => by rw [n1 v (by omega), fW.2 k hk]⟩
    have v1 : mvH G s m V1 q := by
      unfold mvH cdH at *
      rw [n1 (m + 3) (by omega), n1 (m + 4) (by omega), n1 (m + 5) (by omega)]; exact vW
    have r0 : V1 z = W z := n1 z (by omega)
    have r1 : V1 (z + 1) = W (z + 1) := n1 _ (by omega)
    have r5 : V1 (z + 5) = W (z + 5) := n1 _ (by omega)
    have rv : V1 v = W v := n1 v (by omega)
    have hset : ∀ y, nx G s q ≠ [] → PB (nx G s) (qU G - 1) (lP m V) (V (m + 1)) (upI (W z) q y) (upI (W (z + 1)) q 1) (upI (W (z + 2)) q (rem (fun _ => 0) (nx G s q))) (upI (W (z + 5)) (W v 8) q) (W v 8 + 1) (x + 1) (V m 1) → Tr (f_Values_settle S0 V1 v q y 1) (fun _ U => frV v z V U ∧ PB (nx G s) (qU G - 1) (lP m V) (V (m + 1)) (U z) (U (z + 1)) (U (z + 2)) (U (z + 5)) (U v 8) (x + 1) (V m 1)) := by
      intro y hm' hpb
      have := hcap (hB0 hm' (Int.le_refl _))
      refine Tr_mono (V_settle hv (by rw [rv]; exact hlen0) (by rw [rv]; exact this) ⟨hp.1, hp.2.1⟩) ?_
      rintro r U ⟨u1, u2, u3, u4, u5⟩
      refine ⟨⟨fun a b1 b2 b3 b4 b5 => by rw [u5 a b1 b2 b3 b5, f1.1 a b1 b2 b3 b4 b5], fun k hk => by rw [u4, upI_n _ _ hk, f1.2 k hk]⟩, ?_⟩
      rw [u1, u2, u3, u4, r0, r1, r5, rv, upI_s (W v), u5 (z + 2) (by omega) (by omega) (by omega) (by omega), e1]
      exact hpb
    have hl : ∀ (f j : Nat) (x2 : Int), j ≤ (nx G s q).length → (nx G s q).length - j < f → ((x2 = 0 ∧ ∀ i : Nat, i < j → (nx G s q).getD i 0 ≠ -1) ∨ (x2 = 1 ∧ -1 ∈ nx G s q)) → Tr (b_Values_settleIfEnding_L15 S0 v q f V1 x2 j) (fun _ U => frV v z V U ∧ PB (nx G s) (qU G - 1) (lP m V) (V (m + 1)) (U z) (U (z + 1)) (U (z + 2)) (U (z + 5)) (U v 8) (x + 1) (V m 1)) := by
      intro f
      induction f with
      | zero => intro j x2 h1 h2; omega
      | succ f ihf =>
        intro j x2 hj hf hx2
        rw [b_Values_settleIfEnding_L15, FV_1 hv, gd_t (OM hm)]
        refine Tr_bq (M_countOf hm ⟨hp.1, hp.2.1⟩ v1) ?_
        refine Tr_if (fun c1 => ?_) (fun c1 => ?_)
        · rcases hx2 with ⟨y1, y2⟩ | ⟨y1, y2⟩
          · refine Tr_t y1 ?_
            have hall : ∀ e, e ∈ nx G s q → e ≠ -1 := (all_idx (P := fun e => e ≠ -1)).mpr fun i hi => y2 i (by omega)
            have el : V1 (z + 2) q = rem (fun _ => 0) (nx G s q) := by rw [e1, upI_s]
            have hret : (nx G s q ≠ [] → 0 < rem (fun _ => 0) (nx G s q)) → Tr (some ((0 : Int), V1)) (fun _ U => frV v z V U ∧ PB (nx G s) (qU G - 1) (lP m V) (V (m + 1)) (U z) (U (z + 1)) (U (z + 2)) (U (z + 5)) (U v 8) (x + 1) (V m 1)) := by
              intro hh
              refine Tr_ret ⟨f1, ?_⟩
              rw [r0, r1, r5, rv, e1]
              exact hno fun hm' => ⟨hall, hh hm'⟩
            rw [FV_4 hv, AV2 hv, gd_in hp.1 hp.2.1, el]
            have hr := rem_r (pr := fun _ => 0) (fun _ => Or.inl rfl) (nx G s q)
            refine Tr_if (fun c2 => ?_) (fun c2 => ?_)
            · refine Tr_bq (M_countOf hm ⟨hp.1, hp.2.1⟩ v1) ?_
              refine Tr_if (fun c3 => ?_) (fun c3 => ?_)
              · exact hret fun hm' => absurd (List.length_eq_zero_iff.mp (by omega)) hm'
              · have hm' : nx G s q ≠ [] := fun e => by rw [e] at c3; exact c3 (Int.le_refl _)
                have h0 := rem_0 (pr := fun _ => 0) (fun _ => Or.inl rfl) (nx G s q) c2
                refine Tr_bnd (hset (-1) hm' (hst2 hm' (Or.inr ⟨rfl, fun e he => ⟨?_, hall e he⟩⟩))) (fun r U hU => Tr_ret hU)
                refine Classical.byContradiction fun z => ?_
                have := h0 e he (by omega)
                exact absurd this (by decide)
            · exact hret fun _ => by omega
          · refine Tr_f (by omega) ?_
            have hm' : nx G s q ≠ [] := fun e => by rw [e] at y2; cases y2
            exact Tr_bnd (hset 1 hm' (hst hm' (Or.inl ⟨rfl, y2⟩))) (fun r U hU => Tr_ret hU)
        · have hjl : j < (nx G s q).length := by omega
          refine Tr_bq (M_nextOf hG hs hm ⟨hp.1, hp.2.1⟩ v1 hjl) ?_
          rw [w32_id (x := (j : Int) + 1) (by omega) (by omega), show (j : Int) + 1 = ((j + 1 : Nat) : Int) by omega]
          have hmem := getD_mem hjl
          refine Tr_if (fun c2 => ?_) (fun c2 => ?_)
          · have ho : or32 x2 1 = 1 := by rcases hx2 with y | y <;> rw [y.1] <;> decide +kernel
            rw [ho]
            exact ihf (j + 1) 1 (by omega) (by omega) (Or.inr ⟨rfl, by rw [← c2]; exact hmem⟩)
          · have ho : or32 x2 0 = x2 := by rcases hx2 with y | y <;> rw [y.1] <;> decide +kernel
            rw [ho]
            refine ihf (j + 1) x2 (by omega) (by omega) ?_
            rcases hx2 with ⟨y1, y2⟩ | y
            · refine Or.inl ⟨y1, fun i hi => ?_⟩
              by_cases zi : i = j
              · rw [zi]; exact c2
              · exact y2 i (by omega)
            · exact Or.inr y
    exact hl FU 0 0 (Nat.zero_le _) (by rw [FU_v]; omega) (Or.inl ⟨rfl, fun i hi => absurd hi (Nat.not_lt_zero i)⟩)
theorem sg_s (src : Int → Int) (lo : Int) (k : Nat) : upI (fun q => cI src q lo k) (src (lo + k)) (cI src (src (lo + k)) lo k + 1) = fun q => cI src q lo (k + 1) := by
  funext q
  rw [cI_snoc]
  by_cases c : q = src (lo + k)
  · subst c; rw [upI_s, if_pos rfl]
  · rw [upI_n _ _ c, if_neg (fun z => c z.symm)]; omega
theorem cI_le (f : Int → Int) (q lo : Int) (k : Nat) : ∀ d : Nat, cI f q lo k ≤ cI f q lo (k + d) := by
  intro d
  induction d with
  | zero => exact Int.le_refl _
  | succ d ih =>
    rw [show k + (d + 1) = k + d + 1 by omega, cI_snoc]
    by_cases c : f (lo + ((k + d : Nat) : Int)) = q
    · rw [if_pos c]; omega
    · rw [if_neg c]; omega
theorem ss_L7 {G : GM} {s : SL} {v m z : Int} {V : ASt} (hG : GOK G) (hs : SOK G s) (hv : isVl v m z) (hL : LDC G s m V (V m 1)) (hF : FS G s m z V) {h : Int} {pr : Int → Int} {p : Int} (hp : lP m V p) :
    ∀ (f k : Nat) (W : ASt), (k : Int) ≤ V (z + 3) (p + 1) - V (z + 3) p → V (z + 3) (p + 1) - V (z + 3) p - k < f → frV v z V W → h < W v 8 → W (z + 5) h = p → (∀ i, 0 ≤ i → i < W v 8 → W (z + 1) (W (z + 5) i) ≤ i + 1) → BI (nx G s) (qU G - 1) (lP m V) (W z) (W (z + 1)) (W (z + 2)) (W (z + 5)) (W v 8) h pr p (fun q => cI (V (z + 4)) q (V (z + 3) p) k) →
      Tr (b_Values_settleSourcesOf_L7 S0 v p f W (V (z + 3) p + k)) (fun _ U => frV v z V U ∧ h < U v 8 ∧ U (z + 5) h = p ∧ (∀ i, 0 ≤ i → i < U v 8 → U (z + 1) (U (z + 5) i) ≤ i + 1) ∧ BI (nx G s) (qU G - 1) (lP m V) (U z) (U (z + 1)) (U (z + 2)) (U (z + 5)) (U v 8) h pr p (fun q => cI (V (z + 4)) q (V (z + 3) p) (V (z + 3) (p + 1) - V (z + 3) p).toNat)) := by
  have hvv := hv
  unfold isVl at hvv
  have hm := isVl_m hv
  have hcl := LDC_cl hG hL
  obtain ⟨s1, s2, s3, s4, s5⟩ := hF p hp.1 hp.2.1
  have hp0 := hp.1
  have hp1 := hp.2.1
  intro f
  induction f with
  | zero => intro k W h1 h2; omega
  | succ f ih =>
    intro k W hk hf fW hlt hQh hTT hB
    have c3 : W (z + 3) = V (z + 3) := fW.1 _ (by omega) (by omega) (by omega) (by omega) (by omega)
    have c4 : W (z + 4) = V (z + 4) := fW.1 _ (by omega) (by omega) (by omega) (by omega) (by omega)
    rw [b_Values_settleSourcesOf_L7, FV_5 hv, w32_id (x := p + 1) (by omega) (by omega), AV3 hv, gd_in (by omega) (by omega), c3]
    refine Tr_if (fun c => ?_) (fun c => ?_)
    · refine Tr_ret ⟨fW, hlt, hQh, hTT, ?_⟩
      rw [show (V (z + 3) (p + 1) - V (z + 3) p).toNat = k by omega]; exact hB
    obtain ⟨hq, hpm⟩ := s4 (V (z + 3) p + k) (by omega) (by omega)
    have hsum := sg_s (V (z + 4)) (V (z + 3) p) k
    have hcnt := s5 _ hq
    have hle := cI_le (V (z + 4)) (V (z + 4) (V (z + 3) p + k)) (V (z + 3) p) (k + 1) ((V (z + 3) (p + 1) - V (z + 3) p).toNat - (k + 1))
    rw [show k + 1 + ((V (z + 3) (p + 1) - V (z + 3) p).toNat - (k + 1)) = (V (z + 3) (p + 1) - V (z + 3) p).toNat by omega, hcnt, cI_snoc, if_pos rfl] at hle
    rw [FV_6 hv, AV4 hv, gd_in (by omega) (by omega), c4]
    have h12 := nx_12 hG hs (V (z + 4) (V (z + 3) p + k))
    have hcn := cn_r p (nx G s (V (z + 4) (V (z + 3) p + k)))
    have hci := cI_0 (V (z + 4)) (V (z + 4) (V (z + 3) p + k)) k (V (z + 3) p)
    generalize V (z + 4) (V (z + 3) p + k) = q at *
    have hq0 := hq.1
    have hq1 := hq.2.1
    have hlf := hB.2.2.2.2.2.1 q hq
    dsimp only at hlf
    have hrm := rem_r hB.2.2.2.1 (nx G s q)
    have hQp := hB.1.2.1 h hB.2.1.1 hlt
    rw [hQh] at hQp
    rw [FV_4 hv, AV2 hv, gd_in hq0 hq1, w32_id (x := W (z + 2) q - 1) (by omega) (by omega)]
    refine Tr_set (fun V1 e1 n1 => ?_)
    have r0 : V1 z = W z := n1 z (by omega)
    have r1 : V1 (z + 1) = W (z + 1) := n1 _ (by omega)
    have r5 : V1 (z + 5) = W (z + 5) := n1 _ (by omega)
    have rv : V1 v = W v := n1 v (by omega)
    have f1 : frV v z V V1 := ⟨fun a b1 b2 b3 b4 b5 => by rw [n1 a b4, fW.1 a b1 b2 b3 b4 b5], fun k hk => by rw [rv, fW.2 k hk]⟩
    rw [FV_2 hv, AV0 hv, AV0 hv, gd_in hq0 hq1, gd_in hp0 hp1, r0, FV_3 hv, AV1 hv, gd_in hp0 hp1, r1, w32_id (x := V (z + 3) p + (k : Int) + 1) (by omega) (by omega), show V (z + 3) p + (k : Int) + 1 = V (z + 3) p + ((k + 1 : Nat) : Int) by omega]
    have hpass : (W z q ≠ 0 ∨ (W z p = 1 ∧ W (z + 2) q - 1 ≠ 0)) → Tr (b_Values_settleSourcesOf_L7 S0 v p f V1 (V (z + 3) p + ((k + 1 : Nat) : Int))) (fun _ U => frV v z V U ∧ h < U v 8 ∧ U (z + 5) h = p ∧ (∀ i, 0 ≤ i → i < U v 8 → U (z + 1) (U (z + 5) i) ≤ i + 1) ∧ BI (nx G s) (qU G - 1) (lP m V) (U z) (U (z + 1)) (U (z + 2)) (U (z + 5)) (U v 8) h pr p (fun q => cI (V (z + 4)) q (V (z + 3) p) (V (z + 3) (p + 1) - V (z + 3) p).toNat)) := by
      intro hx
      have := BI_pass hB (q := q) hx
      rw [hsum] at this
      refine ih (k + 1) V1 (by omega) (by omega) f1 (by rw [rv]; exact hlt) (by rw [r5]; exact hQh) (by rw [rv, r1, r5]; exact hTT) ?_
      rw [r0, r1, r5, rv, e1]; exact this
    have hsettle : ∀ x, W z q = 0 → ((x = 1 ∧ W z p = -1) ∨ (x = -1 ∧ W z p = 1 ∧ W (z + 2) q - 1 = 0)) → Tr (bnd (f_Values_settle S0 V1 v q x (w32 (W (z + 1) p + 1))) (fun r8 V9 => b_Values_settleSourcesOf_L7 S0 v p f V9 (V (z + 3) p + ((k + 1 : Nat) : Int)))) (fun _ U => frV v z V U ∧ h < U v 8 ∧ U (z + 5) h = p ∧ (∀ i, 0 ≤ i → i < U v 8 → U (z + 1) (U (z + 5) i) ≤ i + 1) ∧ BI (nx G s) (qU G - 1) (lP m V) (U z) (U (z + 1)) (U (z + 2)) (U (z + 5)) (U v 8) h pr p (fun q => cI (V (z + 4)) q (V (z + 3) p) (V (z + 3) (p + 1) - V (z + 3) p).toNat)) := by
      intro x h0 hx
      have hcap := BQ_199 hB.1 (fun q hq => ⟨hq.1, hq.2.1⟩) hq h0
      have := BI_settle hcl hB hq h0 hlt hQh hpm hp0 hle hx
      rw [hsum] at this
      have ht := hQp.2.2
      have htb := hTT h hB.2.1.1 hlt
      rw [hQh] at htb
      rw [w32_id (x := W (z + 1) p + 1) (by omega) (by omega)]
      refine Tr_bnd (V_settle hv (by rw [rv]; exact hB.1.1) (by rw [rv]; exact hcap) ⟨hq0, hq1⟩) ?_
      rintro r U ⟨u1, u2, u3, u4, u5⟩
      have hne : h ≠ W v 8 := by omega
      refine ih (k + 1) U (by omega) (by omega) ⟨fun a b1 b2 b3 b4 b5 => by rw [u5 a b1 b2 b3 b5, f1.1 a b1 b2 b3 b4 b5], fun k hk => by rw [u4, upI_n _ _ hk, f1.2 k hk]⟩ (by rw [u4, upI_s, rv]; omega) (by rw [u3, rv, upI_n _ _ hne, r5]; exact hQh) (fun i i0 i1 => ?_) ?_
      · rw [u4, rv, upI_s] at i1
        rw [u2, u3, r1, r5, rv]
        by_cases ci : i = W v 8
        · rw [ci, upI_s, upI_s]; omega
        · have hQi := (hB.1.2.1 i i0 (by omega)).2.1
          rw [upI_n _ _ ci, upI_n _ _ (fun e => hQi (by rw [e]; exact h0))]
          exact hTT i i0 (by omega)
      rw [u1, u2, u3, u4, r0, r1, r5, rv, upI_s (W v), u5 (z + 2) (by omega) (by omega) (by omega) (by omega), e1]
      exact this
    have hp3 : W z p = 1 ∨ W z p = -1 := by
      have h7 := hB.2.2.2.2.2.2 p hp
      have hU := hG.2.2.2.1
      have hw := hQp.2.1
      by_cases hn : nx G s p = []
      · have := (h7.1 hn).1; omega
      · rcases h7.2 hn with y | y | y
        · exact Or.inl y.1
        · exact Or.inr y.1
        · exact absurd y.1 hw
    refine Tr_if (fun d0 => ?_) (fun d0 => ?_)
    · refine Tr_if (fun d1 => ?_) (fun d1 => ?_)
      · have d2 : W z p = 1 := by omega
        rw [e1, upI_s]
        refine Tr_if (fun d3 => ?_) (fun d3 => ?_)
        · exact hsettle (-1) d0 (Or.inr ⟨rfl, d2, d3⟩)
        · exact hpass (Or.inr ⟨d2, d3⟩)
      · rw [gd_in hp0 hp1]
        exact hsettle 1 d0 (Or.inl ⟨rfl, by omega⟩)
    · exact hpass (Or.inl d0)
theorem so_L73 {G : GM} {s : SL} {v m z : Int} {V : ASt} (hG : GOK G) (hs : SOK G s) (hv : isVl v m z) (hL : LDC G s m V (V m 1)) (hF : FS G s m z V) :
    ∀ (f : Nat) (h : Int) (pr : Int → Int) (W : ASt), 200 - h < f → frV v z V W → (∀ i, 0 ≤ i → i < W v 8 → W (z + 1) (W (z + 5) i) ≤ i + 1) → BI (nx G s) (qU G - 1) (lP m V) (W z) (W (z + 1)) (W (z + 2)) (W (z + 5)) (W v 8) h pr 0 (fun _ => 0) →
      Tr (b_Values_solve_L73 S0 v f W h) (fun _ U => (∀ a, a ≠ v → a ≠ z → a ≠ z + 1 → a ≠ z + 2 → a ≠ z + 5 → U a = V a) ∧ (∀ k, k ≠ 0 → k ≠ 8 → U v k = V v k) ∧ U v 0 = 1 ∧ Sol (nx G s) (qU G - 1) (lP m V) (U z) (fun q => if U z q = 0 then -1 else U (z + 1) q) ∧ (∀ q, lP m V q → U z q ≠ 0 → 0 ≤ U (z + 1) q ∧ U (z + 1) q ≤ 200)) := by
  have hvv := hv
  unfold isVl at hvv
  have hm := isVl_m hv
  have hcl := LDC_cl hG hL
  intro f
  induction f with
  | zero => intro h pr W h1 h2 h3 h4; have := BQ_200 h4.1 (fun q hq => ⟨hq.1, hq.2.1⟩); have := h4.2.1; omega
  | succ f ih =>
    intro h pr W hf fW hTT hB
    have h200 := BQ_200 hB.1 (fun q hq => ⟨hq.1, hq.2.1⟩)
    have hh := hB.2.1
    have hend : W v 8 ≤ h → Tr (b_Values_solve_J104 S0 W v) (fun _ U => (∀ a, a ≠ v → a ≠ z → a ≠ z + 1 → a ≠ z + 2 → a ≠ z + 5 → U a = V a) ∧ (∀ k, k ≠ 0 → k ≠ 8 → U v k = V v k) ∧ U v 0 = 1 ∧ Sol (nx G s) (qU G - 1) (lP m V) (U z) (fun q => if U z q = 0 then -1 else U (z + 1) q) ∧ (∀ q, lP m V q → U z q ≠ 0 → 0 ≤ U (z + 1) q ∧ U (z + 1) q ≤ 200)) := by
      intro hle
      have e : h = W v 8 := by omega
      unfold b_Values_solve_J104
      refine Tr_set (fun V1 e1 n1 => Tr_ret ⟨fun a b1 b2 b3 b4 b5 => by rw [n1 a b1, fW.1 a b1 b2 b3 b4 b5], fun k k1 k2 => by rw [e1, upI_n _ _ k1, fW.2 k k2], by rw [e1, upI_s], ?_, ?_⟩)
      · rw [n1 z (by omega), n1 (z + 1) (by omega)]
        rw [e] at hB
        exact BI_end hcl hB
      · rw [n1 z (by omega), n1 (z + 1) (by omega)]
        intro q hq hw
        obtain ⟨i, i0, i1, i2⟩ := hB.1.2.2.2.1 q hq hw
        have h1 := (hB.1.2.1 i i0 i1).2.2
        have h2 := hTT i i0 i1
        rw [i2] at h1 h2
        omega
    rw [b_Values_solve_L73]
    refine Tr_if (fun c => hend c) (fun c => ?_)
    have hQh := hB.1.2.1 h hh.1 (by omega)
    have hp := hQh.1
    rw [if_neg (by omega), FV_7 hv, AV5 hv, gd_in (by omega) (by omega)]
    unfold f_Values_settleSourcesOf
    have hp0 := hp.1
    have hp1 := hp.2.1
    have c3 : W (z + 3) = V (z + 3) := fW.1 _ (by omega) (by omega) (by omega) (by omega) (by omega)
    rw [gd_t (OV hv), FV_5 hv, AV3 hv, gd_in (by omega) (by omega), c3]
    obtain ⟨s1, s2, s3, s4, s5⟩ := hF _ hp0 hp1
    have hB' : BI (nx G s) (qU G - 1) (lP m V) (W z) (W (z + 1)) (W (z + 2)) (W (z + 5)) (W v 8) h pr (W (z + 5) h) (fun q => cI (V (z + 4)) q (V (z + 3) (W (z + 5) h)) 0) := by
      obtain ⟨b1, b2, b3, b4, b5, b6, b7⟩ := hB
      refine ⟨b1, b2, b3, b4, b5, b6, fun q d => ⟨(b7 q d).1, fun hm' => ?_⟩⟩
      rcases (b7 q d).2 hm' with y | y | ⟨y1, y2, y3⟩
      · exact Or.inl y
      · exact Or.inr (Or.inl y)
      · refine Or.inr (Or.inr ⟨y1, fun e he => ⟨(y2 e he).1, fun e0 zz => (y2 e he).2 e0 ?_⟩, y3⟩)
        rcases zz with zz | zz
        · exact Or.inl zz
        · exact absurd (show (0 : Int) < 0 from zz.2) (by decide)
    have hl := ss_L7 hG hs hv hL hF (h := h) (pr := pr) hp FU 0 W (by omega) (by rw [FU_v]; omega) fW (by omega) rfl hTT hB'
    rw [show V (z + 3) (W (z + 5) h) + ((0 : Nat) : Int) = V (z + 3) (W (z + 5) h) by omega] at hl
    refine Tr_bnd hl ?_
    rintro r U ⟨u1, u2, u3, u4, u5⟩
    rw [w32_id (x := h + 1) (by omega) (by omega)]
    refine ih (h + 1) _ U (by omega) u1 u4 (BI_next u5 u2 u3 hp0 (fun q d => s5 q d) 0)
theorem V_solve {G : GM} {s : SL} {v m z t : Int} {V : ASt} (hG : GOK G) (hs : SOK G s) (hv : isVl v m z) (ht : isGm t) (hg : dG G t V) (h2 : V m 2 = t) (hL : LDC G s m V (V m 1)) :
    Tr (f_Values_solve S0 V v) (fun _ U => (∀ a, a ≠ v → (a < z ∨ z + 5 < a) → U a = V a) ∧ (∀ k, k ≠ 0 → k ≠ 8 → U v k = V v k) ∧ U v 0 = 1 ∧ Sol (nx G s) (qU G - 1) (lP m V) (U z) (fun q => if U z q = 0 then -1 else U (z + 1) q) ∧ (∀ q, lP m V q → U z q ≠ 0 → 0 ≤ U (z + 1) q ∧ U (z + 1) q ≤ 200)) := by
  have hvv := hv
  have htt := ht
  unfold isVl at hvv
  unfold isGm at htt
  have h200 := hL.1.2.1
  have h0 := hL.1.1
  unfold f_Values_solve
  rw [gd_t (OV hv)]
  refine Tr_bnd (V_findSources hG hs hv hL) ?_
  rintro r1 V1 ⟨f1, hF⟩
  refine Tr_set (fun V2 e2 n2 => ?_)
  have f2 : ∀ a, a ≠ v → a ≠ z + 3 → a ≠ z + 4 → V2 a = V a := fun a a1 a2 a3 => by rw [n2 a a1, f1 a a2 a3]
  have em : V2 m = V m := f2 m (by omega) (by omega) (by omega)
  have em1 : V2 (m + 1) = V (m + 1) := f2 _ (by omega) (by omega) (by omega)
  have em2 : V2 (m + 2) = V (m + 2) := f2 _ (by omega) (by omega) (by omega)
  have elP : lP m V2 = lP m V := by funext q; unfold lP; rw [em2]
  have L2 : LDC G s m V2 (V2 m 1) := by
    rw [em]
    exact LDC_fr (fun o _ _ => f2 _ (by omega) (by omega) (by omega)) hL
  have F2 : FS G s m z V2 := by
    unfold FS at *
    rw [n2 (z + 3) (by omega), n2 (z + 4) (by omega), elP]
    have : lP m V1 = lP m V := by funext q; unfold lP; rw [f1 (m + 2) (by omega) (by omega)]
    rw [this] at hF
    exact hF
  have g2 : dG G t V2 := dG_fr (f2 t (by omega) (by omega) (by omega)) (fun o _ _ => f2 _ (by omega) (by omega) (by omega)) hg
  have v8 : V2 v 8 = 0 := by rw [e2, upI_s]
  refine Tr_mono (so_L11 hG hs hv ht g2 (by rw [em]; exact h2) L2 (Q := fun _ U => (∀ a, a ≠ v → a ≠ z → a ≠ z + 1 → a ≠ z + 2 → a ≠ z + 5 → U a = V2 a) ∧ (∀ k, k ≠ 0 → k ≠ 8 → U v k = V2 v k) ∧ U v 0 = 1 ∧ Sol (nx G s) (qU G - 1) (lP m V2) (U z) (fun q => if U z q = 0 then -1 else U (z + 1) q) ∧ (∀ q, lP m V2 q → U z q ≠ 0 → 0 ≤ U (z + 1) q ∧ U (z + 1) q ≤ 200)) (fun W fW hA => ?_) FU 0 V2 (by omega) (by rw [em]; exact h0) (by rw [FU_v, em]; omega) (frV_rfl v z V2) ⟨by omega, fun i a b => by omega, fun i j a b => by omega, fun k a b => by omega⟩) ?_
  · have hD : ∀ k, 0 ≤ k → k < V2 m 1 → lP m V2 (V2 (m + 1) k) := fun k a b => LDC_in hG L2 a b
    have hD2 : ∀ q, lP m V2 q → ∃ k, 0 ≤ k ∧ k < V2 m 1 ∧ V2 (m + 1) k = q := fun q hq => (LDC_at hG L2 hq).2.2.2
    refine so_L42 hG hs hv L2 (fun W3 f3 hB => ?_) FU 0 W (by omega) (by rw [em]; exact h0) (by rw [FU_v, em]; omega) fW (PB_of hA hD hD2)
    have hBI := BI_of hB (LDC_cl hG L2) hD2 0
    refine so_L73 hG hs hv L2 F2 FU 0 _ W3 (by rw [FU_v]; omega) f3 (fun i i0 i1 => ?_) hBI
    have := hB.2.1 i i0 i1
    omega
  · rintro r U ⟨u1, u2, u3, u4, u5⟩
    rw [elP] at u4 u5
    exact ⟨fun a a1 a2 => by rw [u1 a a1 (by omega) (by omega) (by omega) (by omega), f2 a a1 (by omega) (by omega)], fun k k1 k2 => by rw [u2 k k1 k2, e2, upI_n _ _ k2, f1 v (by omega) (by omega)], u3, u4, u5⟩
