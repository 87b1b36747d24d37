/-! the class's moves: laying out all of a list -/
/-- U is V but for the moves of p and the list, which goes on -/
def frO (m t p : Int) (V U : ASt) : Prop :=
  (∀ a, a ≠ m → a ≠ m + 1 → a ≠ m + 2 → a ≠ m + 3 → a ≠ m + 4 → a ≠ m + 5 → a ≠ t + 4 → a ≠ t + 15 → U a = V a) ∧ (∀ k, k ≠ 1 → U m k = V m k) ∧ V m 1 ≤ U m 1 ∧ (∀ i, i < V m 1 → U (m + 1) i = V (m + 1) i) ∧ (∀ q, V (m + 2) q = 1 → U (m + 2) q = 1) ∧
  (∀ q, q ≠ p → U (m + 3) q = V (m + 3) q) ∧ (∀ x, (x < 12 * p ∨ 12 * p + 12 ≤ x) → U (m + 4) x = V (m + 4) x ∧ U (m + 5) x = V (m + 5) x)
theorem lo_one {G : GM} {s : SL} {m t x1 x p : Int} {V : ASt} (hG : GOK G) (hs : SOK G s) (hm : isMv m) (ht : isGm t) (hF : qF G ≠ 0) (hg : gI G t V) (hP : dP G s m t V) (hQ : QC G m V) (hp : 0 ≤ p ∧ p < qPos G) {K : ASt → Int → Option (Int × ASt)} {Q : Int → ASt → Prop}
    (hK : ∀ U : ASt, gI G t U → dP G s m t U → QC G m U → mvH G s m U p → (∀ e, e ∈ nx G s p → 0 ≤ e → U (m + 2) e = 1) → frO m t p V U → Tr (K U (w32 (x + 1))) Q) :
    Tr (wV (aset V (m + 3) p 0) (fun V14 => b_Moves_layOut_L84 S0 K m x1 x p FU V14 0)) Q := by
  have hmm := hm
  have htt := ht
  unfold isMv at hmm
  unfold isGm at htt
  obtain ⟨f, hf⟩ := FU_s
  refine Tr_set (fun V1 e1 n1 => ?_)
  have g1 : gI G t V1 := gI_M hm ht (fun a ha => n1 a (by omega)) hg
  have p1 : dP G s m t V1 := dP_fr (by rw [n1 m (by omega)]) (by rw [n1 m (by omega)]) (fun o _ _ => n1 _ (by omega)) hP
  have c1 : cdH m V1 p (cdsT G s p ((10 : Int) * 0).toNat) := ⟨by rw [e1, upI_s]; rfl, fun i hi => absurd hi (Nat.not_lt_zero i)⟩
  rw [hf, b_Moves_layOut_L84, if_neg (by decide), show w32 (0 + 1) = 1 by decide]
  refine Tr_bnd (M_layPiece hG hs hm ht g1 p1 hF hp (by omega) c1) ?_
  rintro y2 V2 ⟨c2, g2, W2, a2, b2⟩
  have p2 : dP G s m t V2 := dP_fr (by rw [b2.1 m (by omega) (by omega), a2 m (by omega) (by omega)]) (by rw [b2.1 m (by omega) (by omega), a2 m (by omega) (by omega)]) (fun o _ _ => by rw [b2.1 _ (by omega) (by omega), a2 _ (by omega) (by omega)]) p1
  rw [b_Moves_layOut_L84, if_neg (by decide), show w32 (1 + 1) = 2 by decide]
  refine Tr_bnd (M_layPiece hG hs hm ht g2 p2 hF hp (k := 1) (by omega) c2) ?_
  rintro y3 V3 ⟨c3, g3, W3, a3, b3⟩
  have p3 : dP G s m t V3 := dP_fr (by rw [b3.1 m (by omega) (by omega), a3 m (by omega) (by omega)]) (by rw [b3.1 m (by omega) (by omega), a3 m (by omega) (by omega)]) (fun o _ _ => by rw [b3.1 _ (by omega) (by omega), a3 _ (by omega) (by omega)]) p2
  have c3' : cdH m V3 p (cds G s p) := c3
  rw [b_Moves_layOut_L84, if_pos (by decide)]
  have hnx : Tr (f_Moves_layNexts S0 V3 m p) (fun _ U => dX G t U ∧ frN m t p V3 U ∧ ∀ i : Nat, i < (cds G s p).length → U (m + 5) (12 * p + i) = (nx G s p).getD i 0) := by
    unfold f_Moves_layNexts
    exact Tr_gd (OM hm) (ln_L2 hG hs hm ht g3 p3 hp c3' FU 0 V3 (Nat.zero_le _) (by rw [FU_v]; have := cds_le G s p; omega) g3.2.2.1 ⟨fun _ _ _ _ => rfl, fun _ _ => rfl⟩ (fun i hi => absurd hi (Nat.not_lt_zero i)))
  refine Tr_bnd hnx ?_
  rintro y4 V4 ⟨x4, f4, d4⟩
  have g4 : gI G t V4 := ⟨dG_fr (f4.1 t (by omega) (by omega) (by omega)) (fun o _ _ => f4.1 _ (by omega) (by omega) (by omega)) g3.1, dN_fr (f4.1 t (by omega) (by omega) (by omega)) (fun o _ _ => f4.1 _ (by omega) (by omega) (by omega)) g3.2.1, x4, dT_fr (fun o _ _ => f4.1 _ (by omega) (by omega) (by omega)) g3.2.2.2⟩
  have p4 : dP G s m t V4 := dP_fr (by rw [f4.1 m (by omega) (by omega) (by omega)]) (by rw [f4.1 m (by omega) (by omega) (by omega)]) (fun o _ _ => f4.1 _ (by omega) (by omega) (by omega)) p3
  have v4 : mvH G s m V4 p := by
    refine ⟨?_, d4⟩
    unfold cdH
    rw [f4.1 (m + 3) (by omega) (by omega) (by omega), f4.1 (m + 4) (by omega) (by omega) (by omega)]; exact c3'
  -- all rows but few are as in V
  have r4 : ∀ a, a ≠ m + 3 → a ≠ m + 4 → a ≠ m + 5 → a ≠ t + 4 → a ≠ t + 15 → V4 a = V a := fun a z3 z4 z5 y1 y2 => by rw [f4.1 a y1 y2 z5, b3.1 a z3 z4, a3 a y1 y2, b2.1 a z3 z4, a2 a y1 y2, n1 a z3]
  have q4 : QC G m V4 := by
    unfold QC at *
    rw [r4 m (by omega) (by omega) (by omega) (by omega) (by omega), r4 (m + 1) (by omega) (by omega) (by omega) (by omega) (by omega), r4 (m + 2) (by omega) (by omega) (by omega) (by omega) (by omega)]
    exact hQ
  refine Tr_bnd (M_enlistNexts hG hs hm hp v4 q4) ?_
  rintro y5 V5 ⟨q5, f5, l5⟩
  have g5 : gI G t V5 := gI_M hm ht (fun a ha => f5.1 a (by omega) (by omega) (by omega)) g4
  have p5 : dP G s m t V5 := dP_fr (f5.2.1 2 (by decide)) (f5.2.1 14 (by decide)) (fun o _ _ => f5.1 _ (by omega) (by omega) (by omega)) p4
  have v5 : mvH G s m V5 p := by
    unfold mvH cdH at *
    rw [f5.1 (m + 3) (by omega) (by omega) (by omega), f5.1 (m + 4) (by omega) (by omega) (by omega), f5.1 (m + 5) (by omega) (by omega) (by omega)]
    exact v4
  have e1m : V4 m = V m := r4 m (by omega) (by omega) (by omega) (by omega) (by omega)
  refine hK V5 g5 p5 q5 v5 l5 ⟨fun a z0 z1 z2 z3 z4 z5 y1 y2 => by rw [f5.1 a z0 z1 z2, r4 a z3 z4 z5 y1 y2], fun k hk => by rw [f5.2.1 k hk, e1m], by have := f5.2.2.1; rw [e1m] at this; exact this, fun i hi => ?_, fun q hq => ?_, fun q hq => ?_, fun x hx => ⟨?_, ?_⟩⟩
  · rw [f5.2.2.2.1 i (by rw [e1m]; exact hi), r4 (m + 1) (by omega) (by omega) (by omega) (by omega) (by omega)]
  · refine f5.2.2.2.2.1 q ?_
    rw [r4 (m + 2) (by omega) (by omega) (by omega) (by omega) (by omega)]; exact hq
  · rw [f5.1 (m + 3) (by omega) (by omega) (by omega), f4.1 (m + 3) (by omega) (by omega) (by omega), b3.2.1 q hq, a3 (m + 3) (by omega) (by omega), b2.2.1 q hq, a2 (m + 3) (by omega) (by omega), e1, upI_n _ _ hq]
  · rw [f5.1 (m + 4) (by omega) (by omega) (by omega), f4.1 (m + 4) (by omega) (by omega) (by omega), b3.2.2 x hx, a3 (m + 4) (by omega) (by omega), b2.2.2 x hx, a2 (m + 4) (by omega) (by omega), n1 (m + 4) (by omega)]
  · rw [f5.1 (m + 5) (by omega) (by omega) (by omega), f4.2 x hx, b3.1 (m + 5) (by omega) (by omega), a3 (m + 5) (by omega) (by omega), b2.1 (m + 5) (by omega) (by omega), a2 (m + 5) (by omega) (by omega), n1 (m + 5) (by omega)]
/-- the moves of the first x of the list are laid -/
def LDC (G : GM) (s : SL) (m : Int) (V : ASt) (x : Int) : Prop := QC G m V ∧ ∀ i, 0 ≤ i → i < x → mvH G s m V (V (m + 1) i) ∧ ∀ e, e ∈ nx G s (V (m + 1) i) → 0 ≤ e → V (m + 2) e = 1
/-- U is V but for the moves at m and what tests use -/
def frY (m t : Int) (V U : ASt) : Prop := ∀ a, (a < m ∨ m + 11 < a) → a ≠ t + 4 → a ≠ t + 15 → U a = V a
theorem frY_rfl (m t : Int) (V : ASt) : frY m t V V := fun _ _ _ _ => rfl
theorem frY_tr {m t : Int} {V U W : ASt} (h : frY m t V U) (h2 : frY m t U W) : frY m t V W := fun a a1 a2 a3 => by rw [h2 a a1 a2 a3, h a a1 a2 a3]
theorem lo_L52 {G : GM} {s : SL} {m t x1 : Int} (hG : GOK G) (hs : SOK G s) (hm : isMv m) (ht : isGm t) (hF : qF G ≠ 0) (hx1 : x1 = 0 ∨ x1 = 1) : ∀ (n : Nat) (x : Int) (V : ASt), gI G t V → dP G s m t V → 0 ≤ x → x ≤ V m 1 → 200 - x < n → LDC G s m V x →
    Tr (b_Moves_layOut_L52 S0 m x1 n V x) (fun _ U => gI G t U ∧ dP G s m t U ∧ LDC G s m U (U m 1) ∧ U m 0 = x1 ∧ frY m t V U ∧ (∀ q, V (m + 2) q = 1 → U (m + 2) q = 1)) := by
  have hmm := hm
  have htt := ht
  unfold isMv at hmm
  unfold isGm at htt
  have hq := qPos_le hG
  intro n
  induction n with
  | zero => intro x V _ _ h1 h2 h3 h4; have := h4.1.2.1; omega
  | succ n ih =>
    intro x V hg hP x0 x1' hn hL
    have hQ := hL.1
    have h200 := hQ.2.1
    have hend : V m 1 ≤ x → Tr (b_Moves_layOut_J119 S0 V m x1) (fun _ U => gI G t U ∧ dP G s m t U ∧ LDC G s m U (U m 1) ∧ U m 0 = x1 ∧ frY m t V U ∧ (∀ q, V (m + 2) q = 1 → U (m + 2) q = 1)) := by
      intro hx
      have ex : x = V m 1 := by omega
      unfold b_Moves_layOut_J119
      rw [zb_t hx1]
      refine Tr_set (fun V1 e1 n1 => Tr_ret ⟨gI_M hm ht (fun a ha => n1 a (by omega)) hg, dP_fr (by rw [e1, upI_n _ _ (by decide)]) (by rw [e1, upI_n _ _ (by decide)]) (fun o _ _ => n1 _ (by omega)) hP, ?_, by rw [e1, upI_s], fun a a1 a2 a3 => n1 a (by omega), fun q hq' => by rw [n1 _ (by omega)]; exact hq'⟩)
      have e1' : V1 m 1 = V m 1 := by rw [e1, upI_n _ _ (by decide)]
      unfold LDC QC mvH cdH at *
      rw [e1', n1 (m + 1) (by omega), n1 (m + 2) (by omega), n1 (m + 3) (by omega), n1 (m + 4) (by omega), n1 (m + 5) (by omega), ← ex]
      rw [← ex] at hL
      exact hL
    rw [b_Moves_layOut_L52]
    refine Tr_if (fun c => hend c) (fun c => ?_)
    rw [if_neg (by omega), FM_3 hm, AM1 hm, gd_in (by omega) (by omega)]
    have hp := hQ.2.2.1 x x0 (by omega)
    rw [FM_5 hm, AM3 hm, gd_in (by omega) (by omega)]
    refine lo_one hG hs hm ht hF hg hP hQ ⟨hp.1, hp.2.1⟩ (fun U gU pU qU vU lU fU => ?_)
    rw [w32_id (x := x + 1) (by omega) (by omega)]
    obtain ⟨f1, f2, f3, f4, f5, f6, f7⟩ := fU
    refine Tr_mono (ih (x + 1) U gU pU (by omega) (by omega) (by omega) ⟨qU, fun i i0 i1 => ?_⟩) ?_
    · have e : U (m + 1) i = V (m + 1) i := f4 i (by omega)
      rw [e]
      by_cases hi : i = x
      · subst hi; exact ⟨vU, lU⟩
      · have hne : V (m + 1) i ≠ V (m + 1) x := fun z => hi (hQ.2.2.2.1 i x i0 (by omega) x0 (by omega) z)
        have hl := hL.2 i i0 (by omega)
        have hpi := hQ.2.2.1 i i0 (by omega)
        have l12 := cds_qR hG hs (V (m + 1) i)
        have hR := hG.2.2.1
        refine ⟨⟨⟨by rw [f6 _ hne]; exact hl.1.1.1, fun j hj => ?_⟩, fun j hj => ?_⟩, fun e he h0 => f5 _ (hl.2 e he h0)⟩
        · rw [(f7 (12 * V (m + 1) i + j) (by omega)).1]; exact hl.1.1.2 j hj
        · rw [(f7 (12 * V (m + 1) i + j) (by omega)).2]; exact hl.1.2 j hj
    · rintro r W ⟨w1, w2, w3, w4, w5, w6⟩
      refine ⟨w1, w2, w3, w4, fun a a1 a2 a3 => ?_, fun q hq' => w6 q (f5 q hq')⟩
      rw [w5 a a1 a2 a3, f1 a (by omega) (by omega) (by omega) (by omega) (by omega) (by omega) a2 a3]
/-- QY, whatever was added -/
theorem QY_any {m : Int} {E E' : Int → Prop} {V U : ASt} (h : QY m E V U) (he : ∀ q, E q → E' q) : QY m E' V U := ⟨h.1, h.2.1, h.2.2.1, h.2.2.2.1, h.2.2.2.2.1, fun i a b => he _ (h.2.2.2.2.2 i a b)⟩
theorem la_loop {G : GM} (hG : GOK G) {m t : Int} (hm : isMv m) (ht : isGm t) {V : ASt} (hN : dN G t V) (hF : qF G ≠ 0) (h2 : V m 2 = t) : ∀ (n : Nat) (x : Int) (W : ASt), 0 ≤ x → x ≤ qPos G → qPos G - x < n → QC G m W → QY m (fun _ => True) V W → (∀ q, 0 ≤ q → q < x → W (m + 2) q = 1) →
    Tr (b_Moves_listAll_L6 S0 m n W x) (fun _ U => QC G m U ∧ QY m (fun _ => True) V U ∧ ∀ q, 0 ≤ q → q < qPos G → U (m + 2) q = 1) := by
  have hmm := hm
  have htt := ht
  unfold isMv at hmm
  unfold isGm at htt
  have hq := qPos_le hG
  have n1 := hN.1
  rw [if_neg hF] at n1
  intro n
  induction n with
  | zero => intro x W h1 h2 h3; omega
  | succ n ih =>
    intro x W x0 x1 hn qW fW hd
    have w2 : W m 2 = t := by rw [fW.2.1 2 (by decide)]; exact h2
    rw [b_Moves_listAll_L6, w2, gd_t (OG ht), fW.1 t (by omega) (by omega) (by omega), n1]
    refine Tr_if (fun c => Tr_ret ⟨qW, fW, fun q a b => hd q a (by omega)⟩) (fun c => ?_)
    refine Tr_bnd (M_enlist hG hm qW (p := x) (by omega)) ?_
    rintro y U ⟨u1, u2, u3⟩
    rw [w32_id (x := x + 1) (by omega) (by omega)]
    refine ih (x + 1) U (by omega) (by omega) (by omega) u1 (QY_tr fW (QY_any u2 fun _ _ => trivial)) (fun q a b => ?_)
    by_cases z : q = x
    · subst z; exact u3 a
    · exact u2.2.2.2.2.1 q (hd q a (by omega))
theorem M_listAll {G : GM} (hG : GOK G) {m t : Int} (hm : isMv m) (ht : isGm t) {V : ASt} (hN : dN G t V) (hF : qF G ≠ 0) (h2 : V m 2 = t) : Tr (f_Moves_listAll S0 V m) (fun _ U => QC G m U ∧ (∀ q, 0 ≤ q → q < qPos G → U (m + 2) q = 1) ∧ (∀ a, a ≠ m → a ≠ m + 1 → a ≠ m + 2 → U a = V a) ∧ (∀ k, k ≠ 1 → U m k = V m k)) := by
  have hmm := hm
  have htt := ht
  unfold isMv at hmm
  unfold isGm at htt
  have hq := qPos_le hG
  unfold f_Moves_listAll
  rw [gd_t (OM hm)]
  refine Tr_bnd (M_clearList hm G V) ?_
  rintro y U ⟨u1, u2, u3, u4⟩
  refine Tr_mono (la_loop hG hm ht (dN_fr (u3 t (by omega) (by omega)) (fun o _ _ => u3 _ (by omega) (by omega)) hN) hF (by rw [u4 2 (by decide)]; exact h2) FU 0 U (by omega) (by omega) (by rw [FU_v]; omega) u1 (QY_rfl m _ U) (fun q a b => by omega)) ?_
  rintro r W ⟨w1, w2, w3⟩
  exact ⟨w1, w3, fun a a1 a2 a3 => by rw [w2.1 a a1 a2 a3, u3 a a1 a3], fun k hk => by rw [w2.2.1 k hk, u4 k hk]⟩
theorem M_layOut {G : GM} {s : SL} {m t x1 : Int} {V : ASt} (hG : GOK G) (hs : SOK G s) (hm : isMv m) (ht : isGm t) (hF : qF G ≠ 0) (hx1 : x1 = 0 ∨ x1 = 1) (hg : gI G t V) (hP : dP G s m t V) :
    Tr (f_Moves_layOut S0 V m x1) (fun _ U => gI G t U ∧ dP G s m t U ∧ LDC G s m U (U m 1) ∧ U m 0 = x1 ∧ frY m t V U ∧ (x1 = 1 → ∀ q, 0 ≤ q → q < qPos G → U (m + 2) q = 1) ∧ (x1 = 0 → U (m + 2) (beg G 0) = 1 ∧ U (m + 2) (beg G 1) = 1)) := by
  have hmm := hm
  have htt := ht
  unfold isMv at hmm
  unfold isGm at htt
  have hq := qPos_le hG
  unfold f_Moves_layOut
  rw [gd_t (OM hm), hP.1, gd_t (OG ht), hg.1.1, if_neg hF]
  refine Tr_bnd (M_clearList hm G V) ?_
  rintro y U ⟨u1, u2, u3, u4⟩
  have gU : gI G t U := gI_M hm ht (fun a ha => u3 a (by omega) (by omega)) hg
  have pU : dP G s m t U := dP_fr (u4 2 (by decide)) (u4 14 (by decide)) (fun o _ _ => u3 _ (by omega) (by omega)) hP
  have hfin : ∀ W : ASt, QC G m W → (∀ a, a ≠ m → a ≠ m + 1 → a ≠ m + 2 → W a = V a) → (∀ k, k ≠ 1 → W m k = V m k) → Tr (b_Moves_layOut_L52 S0 m x1 FU W 0) (fun _ U => gI G t U ∧ dP G s m t U ∧ LDC G s m U (U m 1) ∧ U m 0 = x1 ∧ frY m t V U ∧ (∀ q, W (m + 2) q = 1 → U (m + 2) q = 1)) := by
    intro W w1 w2 w3
    refine Tr_mono (lo_L52 hG hs hm ht hF hx1 FU 0 W (gI_M hm ht (fun a ha => w2 a (by omega) (by omega) (by omega)) hg) (dP_fr (w3 2 (by decide)) (w3 14 (by decide)) (fun o _ _ => w2 _ (by omega) (by omega) (by omega)) hP) (by omega) w1.1 (by rw [FU_v]; omega) ⟨w1, fun i a b => by omega⟩) ?_
    rintro r Z ⟨z1, z2, z3, z4, z5, z6⟩
    exact ⟨z1, z2, z3, z4, fun a a1 a2 a3 => by rw [z5 a a1 a2 a3, w2 a (by omega) (by omega) (by omega)], z6⟩
  refine Tr_if (fun c => ?_) (fun c => ?_)
  · rw [pU.1, gd_t (OG ht)]
    refine Tr_bq (G_beginningOf hG ht gU.1 gU.2.1 (Or.inl rfl)) ?_
    have b0 := beg_r hG (d := 0)
    have b1 := beg_r hG (d := 1)
    refine Tr_bnd (M_enlist hG hm u1 (p := beg G 0) (by omega)) ?_
    rintro y2 W ⟨w1, w2, w3⟩
    have gW : gI G t W := gI_M hm ht (fun a ha => w2.1 a (by omega) (by omega) (by omega)) gU
    rw [w2.2.1 2 (by decide), pU.1, gd_t (OG ht)]
    refine Tr_bq (G_beginningOf hG ht gW.1 gW.2.1 (Or.inr rfl)) ?_
    refine Tr_bnd (M_enlist hG hm w1 (p := beg G 1) (by omega)) ?_
    rintro y3 Z ⟨z1, z2, z3⟩
    refine Tr_mono (hfin Z z1 (fun a a1 a2 a3 => by rw [z2.1 a a1 a2 a3, w2.1 a a1 a2 a3, u3 a a1 a3]) (fun k hk => by rw [z2.2.1 k hk, w2.2.1 k hk, u4 k hk])) ?_
    rintro r T ⟨t1, t2, t3, t4, t5, t6⟩
    exact ⟨t1, t2, t3, t4, t5, fun e => by omega, fun _ => ⟨t6 _ (z2.2.2.2.2.1 _ (w3 b0.1)), t6 _ (z3 b1.1)⟩⟩
  · refine Tr_bnd (M_listAll hG hm ht gU.2.1 hF pU.1) ?_
    rintro y2 W ⟨w1, w2, w3, w4⟩
    refine Tr_mono (hfin W w1 (fun a a1 a2 a3 => by rw [w3 a a1 a2 a3, u3 a a1 a3]) (fun k hk => by rw [w4 k hk, u4 k hk])) ?_
    rintro r T ⟨t1, t2, t3, t4, t5, t6⟩
    exact ⟨t1, t2, t3, t4, t5, fun _ q a b => t6 q (w2 q a b), fun e => absurd e c⟩
