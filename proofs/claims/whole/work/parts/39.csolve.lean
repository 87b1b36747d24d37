/-! the class's values: solving -/
theorem rem_app (pr : Int → Int) : ∀ l l' : List Int, rem pr (l ++ l') = rem pr l + rem pr l' := by
  intro l l'
  induction l with
  | nil => rw [List.nil_append, rem]; omega
  | cons e l ih => rw [List.cons_append, rem, rem, ih]; omega
theorem rem_take {pr : Int → Int} {l : List Int} {j : Nat} (h : j < l.length) : rem pr (l.take (j + 1)) = rem pr (l.take j) + (if 0 ≤ l.getD j 0 then 1 - pr (l.getD j 0) else 0) := by
  rw [take_s h, rem_app, rem, rem]; omega
theorem V_settle {v m z : Int} {W : ASt} (hv : isVl v m z) (h0 : 0 ≤ W v 8) (h1 : W v 8 < 200) {q x y : Int} (hq : 0 ≤ q ∧ q < 200) :
    Tr (f_Values_settle S0 W v q x y) (fun _ U => U z = upI (W z) q x ∧ U (z + 1) = upI (W (z + 1)) q y ∧ U (z + 5) = upI (W (z + 5)) (W v 8) q ∧ U v = upI (W v) 8 (W v 8 + 1) ∧ ∀ a, a ≠ v → a ≠ z → a ≠ z + 1 → a ≠ z + 5 → U a = W a) := by
  have hvv := hv
  unfold isVl at hvv
  unfold f_Values_settle
  rw [gd_t (OV hv), FV_2 hv, AV0 hv, gd_in (by omega) (by omega)]
  refine Tr_set (fun V1 e1 n1 => ?_)
  rw [FV_3 hv, AV1 hv, gd_in (by omega) (by omega)]
  refine Tr_set (fun V2 e2 n2 => ?_)
  unfold f_Values_enqueue
  have hv8 : V2 v = W v := by rw [n2 v (by omega), n1 v (by omega)]
  rw [gd_t (OV hv), hv8, if_neg (by omega), FV_7 hv, AV5 hv, gd_in (by omega) (by omega)]
  refine Tr_bnd (P := fun _ U => U (z + 5) = upI (V2 (z + 5)) (W v 8) q ∧ U v = upI (V2 v) 8 (W v 8 + 1) ∧ ∀ a, a ≠ z + 5 → a ≠ v → U a = V2 a) ?_ ?_
  · refine Tr_set (fun V3 e3 n3 => ?_)
    rw [n3 v (by omega), hv8, w32_id (by omega) (by omega)]
    refine Tr_set (fun V4 e4 n4 => Tr_ret ⟨by rw [n4 _ (by omega), e3], by rw [e4, n3 v (by omega), hv8], fun a a1 a2 => by rw [n4 a a2, n3 a a1]⟩)
  · rintro r U ⟨u1, u2, u3⟩
    refine Tr_ret ⟨by rw [u3 z (by omega) (by omega), n2 z (by omega), e1], by rw [u3 _ (by omega) (by omega), e2, n1 _ (by omega)], by rw [u1, n2 _ (by omega), n1 _ (by omega)], by rw [u2, hv8], fun a a1 a2 a3 a4 => by rw [u3 a a4 a1, n2 a a3, n1 a a2]⟩
theorem V_leading {G : GM} {s : SL} {v m z q : Int} {W : ASt} (hG : GOK G) (hs : SOK G s) (hv : isVl v m z) (hq : 0 ≤ q ∧ q < 200) (h : mvH G s m W q) : f_Values_countLeadingOn S0 W v q = some (rem (fun _ => 0) (nx G s q), W) := by
  have hm := isVl_m hv
  have h12 := nx_12 hG hs q
  have hl : ∀ (n j : Nat), j ≤ (nx G s q).length → (nx G s q).length - j < n → b_Values_countLeadingOn_L4 S0 v q n W (rem (fun _ => 0) ((nx G s q).take j)) j = some (rem (fun _ => 0) (nx G s q), W) := by
    intro n
    induction n with
    | zero => intro j h1 h2; omega
    | succ n ih =>
      intro j hj hn
      rw [b_Values_countLeadingOn_L4, FV_1 hv, gd_t (OM hm), M_countOf hm hq h, bnd_e]
      by_cases c : ((nx G s q).length : Int) ≤ j
      · rw [if_pos c, List.take_of_length_le (by omega)]
      have hjl : j < (nx G s q).length := by omega
      rw [if_neg c, M_nextOf hG hs hm hq h hjl, bnd_e, w32_id (x := (j : Int) + 1) (by omega) (by omega), show (j : Int) + 1 = ((j + 1 : Nat) : Int) by omega]
      have hr := rem_r (pr := fun _ => 0) (fun _ => Or.inl rfl) ((nx G s q).take j)
      rw [List.length_take] at hr
      have ht := rem_take (pr := fun _ => 0) hjl
      have ihj := ih (j + 1) (by omega) (by omega)
      rw [ht] at ihj
      by_cases d : (nx G s q).getD j 0 < 0
      · rw [if_pos d, w32_id (by omega) (by omega)]
        rw [if_neg (by omega)] at ihj
        exact ihj
      · rw [if_neg d, w32_id (by omega) (by omega)]
        rw [if_pos (by omega)] at ihj
        exact ihj
  unfold f_Values_countLeadingOn
  rw [gd_t (OV hv)]
  exact hl FU 0 (Nat.zero_le _) (by rw [FU_v]; omega)
/-- U is V but for what solving sets -/
def frV (v z : Int) (V U : ASt) : Prop := (∀ a, a ≠ v → a ≠ z → a ≠ z + 1 → a ≠ z + 2 → a ≠ z + 5 → U a = V a) ∧ (∀ k, k ≠ 8 → U v k = V v k)
theorem frV_rfl (v z : Int) (V : ASt) : frV v z V V := ⟨fun _ _ _ _ _ _ => rfl, fun _ _ => rfl⟩
def PA (M : Int → List Int) (u : Int) (L w t Q : Int → Int) (n x : Int) : Prop :=
  (0 ≤ n ∧ n ≤ x) ∧ (∀ i, 0 ≤ i → i < n → ∃ k, 0 ≤ k ∧ k < x ∧ Q i = L k ∧ M (L k) = [] ∧ u ≠ 0) ∧ (∀ i j, 0 ≤ i → i < n → 0 ≤ j → j < n → Q i = Q j → i = j) ∧
  (∀ k, 0 ≤ k → k < x → (M (L k) = [] → w (L k) = u ∧ (u ≠ 0 → t (L k) = 0 ∧ ∃ i, 0 ≤ i ∧ i < n ∧ Q i = L k)) ∧ (M (L k) ≠ [] → w (L k) = 0))
theorem so_L11 {G : GM} {s : SL} {v m z t : Int} {V : ASt} (hG : GOK G) (hs : SOK G s) (hv : isVl v m z) (ht : isGm t) (hg : dG G t V) (h2 : V m 2 = t) (hL : LDC G s m V (V m 1)) {Q : Int → ASt → Prop}
    (hK : ∀ W : ASt, frV v z V W → PA (nx G s) (qU G - 1) (V (m + 1)) (W z) (W (z + 1)) (W (z + 5)) (W v 8) (V m 1) → Tr (b_Values_solve_L42 S0 v FU W 0) Q) :
    ∀ (n : Nat) (x : Int) (W : ASt), 0 ≤ x → x ≤ V m 1 → V m 1 - x < n → frV v z V W → PA (nx G s) (qU G - 1) (V (m + 1)) (W z) (W (z + 1)) (W (z + 5)) (W v 8) x → Tr (b_Values_solve_L11 S0 v n W x) Q := by
  have hvv := hv
  have htt := ht
  unfold isVl at hvv
  unfold isGm at htt
  have hm := isVl_m hv
  have h200 := hL.1.2.1
  have hU := hG.2.2.2.1
  intro n
  induction n with
  | zero => intro x W h1 h2; omega
  | succ n ih =>
    intro x W x0 x1 hn fW hA
    have cm : W m = V m := fW.1 m (by omega) (by omega) (by omega) (by omega) (by omega)
    have cm1 : W (m + 1) = V (m + 1) := fW.1 _ (by omega) (by omega) (by omega) (by omega) (by omega)
    rw [b_Values_solve_L11, FV_1 hv, gd_t (OM hm), cm]
    refine Tr_if (fun c => ?_) (fun c => ?_)
    · have : x = V m 1 := by omega
      subst this
      exact hK W fW hA
    refine Tr_bq (M_listedAt hm (i := x) x0 (by rw [cm]; omega) (by rw [cm]; exact h200)) ?_
    rw [cm1]
    have hp := LDC_in hG hL x0 (by omega)
    have hat := LDC_at hG hL hp
    have hinj : ∀ k, 0 ≤ k → k < x → V (m + 1) k ≠ V (m + 1) x := fun k k0 k1 e => by have := hL.1.2.2.2.1 k x k0 (by omega) x0 (by omega) e; omega
    obtain ⟨a0, a1, a2, a3⟩ := hA
    rw [w32_id (x := x + 1) (by omega) (by omega)]
    generalize hq : V (m + 1) x = q at *
    -- what follows from a visit
    have hgo : ∀ U : ASt, frV v z V U → (∃ U1 : ASt, U1 z = upI (W z) q 0 ∧ (∀ a, a ≠ z → U1 a = W a) ∧ (((nx G s q ≠ [] ∨ qU G - 1 = 0) ∧ U = U1) ∨ (nx G s q = [] ∧ qU G - 1 ≠ 0 ∧ U z = upI (U1 z) q (qU G - 1) ∧ U (z + 1) = upI (U1 (z + 1)) q 0 ∧ U (z + 5) = upI (U1 (z + 5)) (U1 v 8) q ∧ U v = upI (U1 v) 8 (U1 v 8 + 1)))) → Tr (b_Values_solve_L11 S0 v n U (x + 1)) Q := by
      rintro U fU ⟨U1, e1, n1, hcase⟩
      refine ih (x + 1) U (by omega) (by omega) (by omega) fU ?_
      rcases hcase with ⟨c1, c2⟩ | ⟨c1, c2, c3, c4, c5, c6⟩
      · subst c2
        rw [e1, n1 (z + 1) (by omega), n1 (z + 5) (by omega), n1 v (by omega)]
        refine ⟨by omega, fun i i0 i1 => ?_, a2, fun k k0 k1 => ?_⟩
        · obtain ⟨k, k0, k1, k2⟩ := a1 i i0 i1
          exact ⟨k, k0, by omega, k2⟩
        · by_cases z' : k = x
          · subst z'
            rw [hq, upI_s]
            refine ⟨fun hn' => ?_, fun _ => rfl⟩
            rcases c1 with c1 | c1
            · exact absurd hn' c1
            · exact ⟨c1.symm, fun z => absurd c1 z⟩
          · have hne := hinj k k0 (by omega)
            rw [upI_n _ _ hne]; exact a3 k k0 (by omega)
      · rw [c3, c4, c5, c6, e1, n1 (z + 1) (by omega), n1 (z + 5) (by omega), n1 v (by omega), upI_s (W v)]
        have hne' : ∀ i, 0 ≤ i → i < W v 8 → W (z + 5) i ≠ q := fun i i0 i1 e => by
          obtain ⟨k, k0, k1, k2, -⟩ := a1 i i0 i1
          exact hinj k k0 k1 (by rw [← k2]; exact e)
        refine ⟨by omega, fun i i0 i1 => ?_, fun i j i0 i1 j0 j1 e => ?_, fun k k0 k1 => ?_⟩
        · by_cases ci : i = W v 8
          · rw [ci, upI_s]; exact ⟨x, x0, by omega, hq.symm, by rw [hq]; exact c1, c2⟩
          · rw [upI_n _ _ ci]
            obtain ⟨k, k0, k1, k2⟩ := a1 i i0 (by omega)
            exact ⟨k, k0, by omega, k2⟩
        · by_cases ci : i = W v 8
          · by_cases cj : j = W v 8
            · omega
            · rw [ci, upI_s, upI_n _ _ cj] at e
              exact absurd e.symm (hne' j j0 (by omega))
          · by_cases cj : j = W v 8
            · rw [cj, upI_s, upI_n _ _ ci] at e
              exact absurd e (hne' i i0 (by omega))
            · rw [upI_n _ _ ci, upI_n _ _ cj] at e
              exact a2 i j i0 (by omega) j0 (by omega) e
        · by_cases z' : k = x
          · subst z'
            rw [hq, upI_s, upI_s]
            exact ⟨fun _ => ⟨rfl, fun _ => ⟨rfl, W v 8, a0.1, by omega, upI_s _ _ _⟩⟩, fun z => absurd c1 z⟩
          · have hne := hinj k k0 (by omega)
            rw [upI_n _ _ hne, upI_n _ _ hne, upI_n _ _ hne]
            have := a3 k k0 (by omega)
            refine ⟨fun hm' => ⟨(this.1 hm').1, fun hu => ⟨((this.1 hm').2 hu).1, ?_⟩⟩, this.2⟩
            obtain ⟨i, i0, i1, i2⟩ := ((this.1 hm').2 hu).2
            exact ⟨i, i0, by omega, by rw [upI_n _ _ (by omega)]; exact i2⟩
    unfold f_Values_settleIfStuck
    rw [gd_t (OV hv), FV_2 hv, AV0 hv, gd_in hp.1 hp.2.1]
    refine Tr_bnd (P := fun _ U => frV v z V U ∧ (∃ U1 : ASt, U1 z = upI (W z) q 0 ∧ (∀ a, a ≠ z → U1 a = W a) ∧ (((nx G s q ≠ [] ∨ qU G - 1 = 0) ∧ U = U1) ∨ (nx G s q = [] ∧ qU G - 1 ≠ 0 ∧ U z = upI (U1 z) q (qU G - 1) ∧ U (z + 1) = upI (U1 (z + 1)) q 0 ∧ U (z + 5) = upI (U1 (z + 5)) (U1 v 8) q ∧ U v = upI (U1 v) 8 (U1 v 8 + 1))))) ?_ (fun r U hU => hgo U hU.1 hU.2)
    refine Tr_set (fun V1 e1 n1 => ?_)
    have f1 : frV v z V V1 := ⟨fun a b1 b2 b3 b4 b5 => by rw [n1 a b2, fW.1 a b1 b2 b3 b4 b5], fun k hk => by rw [n1 v (by omega), fW.2 k hk]⟩
    have v1 : mvH G s m V1 q := by
      have := hat.2.1
      unfold mvH cdH at *
      rw [f1.1 (m + 3) (by omega) (by omega) (by omega) (by omega) (by omega), f1.1 (m + 4) (by omega) (by omega) (by omega) (by omega) (by omega), f1.1 (m + 5) (by omega) (by omega) (by omega) (by omega) (by omega)]
      exact this
    have m2 : V1 m 2 = t := by rw [f1.1 m (by omega) (by omega) (by omega) (by omega) (by omega)]; exact h2
    have g1 : dG G t V1 := dG_fr (f1.1 t (by omega) (by omega) (by omega) (by omega) (by omega)) (fun o _ _ => f1.1 _ (by omega) (by omega) (by omega) (by omega) (by omega)) hg
    rw [FV_1 hv, gd_t (OM hm)]
    refine Tr_bq (M_countOf hm ⟨hp.1, hp.2.1⟩ v1) ?_
    refine Tr_if (fun c1 => ?_) (fun c1 => ?_)
    · have hnil : nx G s q = [] := List.length_eq_zero_iff.mp (by omega)
      unfold f_Moves_winnerWhenStuck
      rw [gd_t (OM hm), m2, gd_t (OG ht), and32_1, G_winner ht g1 (by omega), bnd_e, bnd_e]
      have hset : ∀ y, y = qU G - 1 → y ≠ 0 → Tr (b_Values_settleIfStuck_J46 S0 V1 v v q y) (fun _ U => frV v z V U ∧ (∃ U1 : ASt, U1 z = upI (W z) q 0 ∧ (∀ a, a ≠ z → U1 a = W a) ∧ (((nx G s q ≠ [] ∨ qU G - 1 = 0) ∧ U = U1) ∨ (nx G s q = [] ∧ qU G - 1 ≠ 0 ∧ U z = upI (U1 z) q (qU G - 1) ∧ U (z + 1) = upI (U1 (z + 1)) q 0 ∧ U (z + 5) = upI (U1 (z + 5)) (U1 v 8) q ∧ U v = upI (U1 v) 8 (U1 v 8 + 1))))) := by
        intro y hy hy0
        unfold b_Values_settleIfStuck_J46
        have v8 : V1 v 8 = W v 8 := by rw [n1 v (by omega)]
        rw [gd_t (OV hv)]
        refine Tr_bnd (V_settle hv (by rw [v8]; omega) (by rw [v8]; omega) ⟨hp.1, hp.2.1⟩) ?_
        rintro r U ⟨u1, u2, u3, u4, u5⟩
        refine Tr_ret ⟨⟨fun a b1 b2 b3 b4 b5 => by rw [u5 a b1 b2 b3 b5, f1.1 a b1 b2 b3 b4 b5], fun k hk => by rw [u4, upI_n _ _ hk, f1.2 k hk]⟩, V1, e1, n1, Or.inr ⟨hnil, by omega, by rw [u1, hy], u2, u3, u4⟩⟩
      have hUc : qU G = 0 ∨ qU G = 1 ∨ qU G = 2 := by omega
      rcases hUc with e | e | e
      · have hw : (if qU G = 1 then 2 else if qU G = 2 then q % 2 else 1 - q % 2) = 1 - q % 2 := by rw [if_neg (by omega), if_neg (by omega)]
        rw [hw]
        exact Tr_f (by omega) (Tr_f (by omega) (hset (-1) (by omega) (by decide)))
      · have hw : (if qU G = 1 then 2 else if qU G = 2 then q % 2 else 1 - q % 2) = 2 := by rw [if_pos e]
        rw [hw]
        exact Tr_t rfl (Tr_ret ⟨f1, V1, e1, n1, Or.inl ⟨Or.inr (by omega), rfl⟩⟩)
      · have hw : (if qU G = 1 then 2 else if qU G = 2 then q % 2 else 1 - q % 2) = q % 2 := by rw [if_neg (by omega), if_pos e]
        rw [hw]
        exact Tr_f (by omega) (Tr_t rfl (hset 1 (by omega) (by decide)))
    · exact Tr_ret ⟨f1, V1, e1, n1, Or.inl ⟨Or.inl fun e => c1 (by rw [e]; rfl), rfl⟩⟩
