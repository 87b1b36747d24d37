/-! the class's moves: nexts, lists, laying out -/
def frN (m t p : Int) (V U : ASt) : Prop := (∀ a, a ≠ t + 4 → a ≠ t + 15 → a ≠ m + 5 → U a = V a) ∧ (∀ x, (x < 12 * p ∨ 12 * p + 12 ≤ x) → U (m + 5) x = V (m + 5) x)
theorem ln_L53 {G : GM} {s : SL} {m t p k g j : Int} {V : ASt} (hG : GOK G) (hs : SOK G s) (hm : isMv m) (ht : isGm t) (hg : gI G t V) (hP : dP G s m t V) (hp : 0 ≤ p ∧ p < qPos G) (hk : 0 ≤ k ∧ k < qP G) (hgg : 0 ≤ g ∧ g ≤ qF G) {K2 : ASt → Int → Option (Int × ASt)} {Q : Int → ASt → Prop}
    (hK : ∀ W : ASt, dX G t W → (∀ a, a ≠ t + 4 → a ≠ t + 15 → W a = V a) → Tr (b_Moves_layNexts_J104 S0 K2 W m p j (lead G s p k g)) Q) :
    ∀ (n i : Nat) (W : ASt) (x : Int), i ≤ (enR G s (qR G).toNat).length → (enR G s (qR G).toNat).length - i < n → dX G t W → (∀ a, a ≠ t + 4 → a ≠ t + 15 → W a = V a) → ((x = beh G p k g ∧ lead G s p k g = leadL G s p k g ((enR G s (qR G).toNat).drop i)) ∨ (x < 0 ∧ lead G s p k g = x)) → Tr (b_Moves_layNexts_L53 S0 K2 m p j k g n W x i) Q := by
  have hmm := hm
  have htt := ht
  unfold isMv at hmm
  unfold isGm at htt
  have hR := hG.2.2.1
  have hle := enR_le G s (qR G).toNat
  have hbr := beh_r hG (k := k) hp.1 hgg
  have hF := hG.1
  intro n
  induction n with
  | zero => intro i W x h1 h2; omega
  | succ n ih =>
    intro i W x hi hn xW fW hx
    have gW : gI G t W := gI_H xW fW hg
    have cm : W m = V m := fW m (by omega) (by omega)
    rw [b_Moves_layNexts_L53, cm, hP.2.2.2.1, hP.1]
    refine Tr_if (fun c => ?_) (fun c => ?_)
    · have hl : (enR G s (qR G).toNat).drop i = [] := List.drop_eq_nil_of_le (by omega)
      rcases hx with ⟨x1, x2⟩ | ⟨x1, x2⟩
      · rw [hl, leadL] at x2
        rw [x1, ← x2]; exact hK W xW fW
      · rw [← x2]; exact hK W xW fW
    refine Tr_if (fun c1 => ?_) (fun c1 => ?_)
    · rcases hx with ⟨x1, x2⟩ | ⟨x1, x2⟩
      · omega
      · rw [← x2]; exact hK W xW fW
    have hil : i < (enR G s (qR G).toNat).length := by omega
    have hx' : x = beh G p k g ∧ lead G s p k g = leadL G s p k g ((enR G s (qR G).toNat).drop i) := by
      rcases hx with q | q
      · exact q
      · omega
    have hrow := hP.2.2.2.2 i hil
    have hmem := enR_mem hs (qR G).toNat (by omega) (getD_mem hil)
    have hdrop := drop_cons hil
    rw [FM_12 hm, AM10 hm, gd_in (by omega) (by omega), fW (m + 10) (by omega) (by omega), hrow.1, gd_t (OG ht), w32_id (x := (i : Int) + 1) (by omega) (by omega)]
    generalize (enR G s (qR G).toNat).getD i 0 = r at *
    refine Tr_bnd (G_holds hG ht gW.1 gW.2.1 gW.2.2.1 gW.2.2.2 hmem.1 hmem.2.1 hp hk (by omega)) ?_
    rintro y U ⟨hy, xU, fU'⟩
    have fU : ∀ a, a ≠ t + 4 → a ≠ t + 15 → U a = V a := fun a a1 a2 => by rw [fU' a a1 a2, fW a a1 a2]
    have hz := hold_r hG r p k g
    have ihh := fun x => ih (i + 1) U x (by omega) (by omega) xU fU
    rw [show ((i + 1 : Nat) : Int) = (i : Int) + 1 by omega] at ihh
    refine Tr_if (fun c2 => ?_) (fun c2 => ?_)
    · refine ihh x (Or.inl ⟨hx'.1, ?_⟩)
      rw [hx'.2, hdrop, leadL, if_neg (by omega)]
    · rw [FM_13 hm, AM11 hm, gd_in (by omega) (by omega), fU (m + 11) (by omega) (by omega), hrow.2]
      refine ihh _ (Or.inr ⟨?_, ?_⟩)
      · by_cases z : kNow G s r = 2
        · rw [if_pos z]; omega
        · rw [if_neg z]; omega
      · rw [hx'.2, hdrop, leadL, if_pos (by omega)]
theorem ln_L2 {G : GM} {s : SL} {m t p : Int} {V : ASt} (hG : GOK G) (hs : SOK G s) (hm : isMv m) (ht : isGm t) (hg : gI G t V) (hP : dP G s m t V) (hp : 0 ≤ p ∧ p < qPos G) (hc : cdH m V p (cds G s p)) :
    ∀ (n j : Nat) (W : ASt), j ≤ (cds G s p).length → (cds G s p).length - j < n → dX G t W → frN m t p V W → (∀ i : Nat, i < j → W (m + 5) (12 * p + i) = (nx G s p).getD i 0) →
      Tr (b_Moves_layNexts_L2 S0 m p n W j) (fun _ U => dX G t U ∧ frN m t p V U ∧ ∀ i : Nat, i < (cds G s p).length → U (m + 5) (12 * p + i) = (nx G s p).getD i 0) := by
  have hmm := hm
  have htt := ht
  unfold isMv at hmm
  unfold isGm at htt
  have hq := qPos_le hG
  have hlen := cds_qR hG hs p
  have hR := hG.2.2.1
  intro n
  induction n with
  | zero => intro j W h1 h2; omega
  | succ n ih =>
    intro j W hj hn xW fW hdone
    have c3 : W (m + 3) = V (m + 3) := fW.1 _ (by omega) (by omega) (by omega)
    have c4 : W (m + 4) = V (m + 4) := fW.1 _ (by omega) (by omega) (by omega)
    have cm : W m = V m := fW.1 _ (by omega) (by omega) (by omega)
    rw [b_Moves_layNexts_L2, FM_5 hm, AM3 hm, gd_in (by omega) (by omega), c3, hc.1]
    refine Tr_if (fun c => ?_) (fun c => ?_)
    · refine Tr_ret ⟨xW, fW, fun i hi => hdone i (by omega)⟩
    have hjl : j < (cds G s p).length := by omega
    have hcm := cds_mem (getD_mem hjl)
    have hnx := nx_getD hjl
    have gW : gI G t W := ⟨dG_fr (fW.1 t (by omega) (by omega) (by omega)) (fun o _ _ => fW.1 _ (by omega) (by omega) (by omega)) hg.1, dN_fr (fW.1 t (by omega) (by omega) (by omega)) (fun o _ _ => fW.1 _ (by omega) (by omega) (by omega)) hg.2.1, xW, dT_fr (fun o _ _ => fW.1 _ (by omega) (by omega) (by omega)) hg.2.2.2⟩
    have pW : dP G s m t W := dP_fr (by rw [cm]) (by rw [cm]) (fun o _ _ => fW.1 _ (by omega) (by omega) (by omega)) hP
    rw [w32_id (x := p * 12) (by omega) (by omega), w32_id (x := p * 12 + (j : Int)) (by omega) (by omega), show p * 12 + (j : Int) = 12 * p + j by omega, FM_6 hm, AM4 hm, gd_in (by omega) (by omega), c4, hc.2 j hjl, cm, hP.1, gd_t (OG ht)]
    generalize (cds G s p).getD j 0 = cc at *
    rw [tdiv_e hcm.1, tmod_e hcm.1, w32_id (x := cc / 10) (by omega) (by omega)]
    refine Tr_bq (G_positionBehind hG ht gW.1 gW.2.1 hp ⟨hcm.2.2.1, hcm.2.2.2.1⟩ ⟨hcm.2.2.2.2.1, hcm.2.2.2.2.2.1⟩) ?_
    refine ln_L53 hG hs hm ht gW pW hp ⟨hcm.2.2.1, hcm.2.2.2.1⟩ ⟨hcm.2.2.2.2.1, hcm.2.2.2.2.2.1⟩ (fun U xU fU => ?_) FU 0 W _ (Nat.zero_le _) (by rw [FU_v]; have := enR_le G s (qR G).toNat; omega) xW (fun _ _ _ => rfl) (Or.inl ⟨rfl, by unfold lead; rw [leadS_L, List.drop_zero]⟩)
    unfold b_Moves_layNexts_J104
    rw [w32_id (x := p * 12) (by omega) (by omega), w32_id (x := p * 12 + (j : Int)) (by omega) (by omega), show p * 12 + (j : Int) = 12 * p + j by omega, FM_7 hm, AM5 hm, gd_in (by omega) (by omega)]
    refine Tr_set (fun V1 e1 n1 => ?_)
    rw [w32_id (x := (j : Int) + 1) (by omega) (by omega), show (j : Int) + 1 = ((j + 1 : Nat) : Int) by omega]
    have e5 : V1 (m + 5) = upI (W (m + 5)) (12 * p + j) (lead G s p (cc / 10) (cc % 10)) := by rw [e1, fU (m + 5) (by omega) (by omega)]
    refine ih (j + 1) V1 (by omega) (by omega) (dX_fr (n1 _ (by omega)) xU) ⟨fun a a1 a2 a3 => by rw [n1 a a3, fU a a1 a2, fW.1 a a1 a2 a3], fun x hx => by rw [e5, upI_n _ _ (by omega), fW.2 x hx]⟩ (fun i hi => ?_)
    rw [e5]
    by_cases z : i = j
    · subst z
      rw [upI_s, hnx]; rfl
    · rw [upI_n _ _ (by omega)]; exact hdone i (by omega)
/-- the moves of p are laid -/
def mvH (G : GM) (s : SL) (m : Int) (V : ASt) (p : Int) : Prop := cdH m V p (cds G s p) ∧ ∀ i : Nat, i < (cds G s p).length → V (m + 5) (12 * p + i) = (nx G s p).getD i 0
-- ---- lists
def QC (G : GM) (m : Int) (V : ASt) : Prop :=
  0 ≤ V m 1 ∧ V m 1 ≤ 200 ∧ (∀ i, 0 ≤ i → i < V m 1 → 0 ≤ V (m + 1) i ∧ V (m + 1) i < qPos G ∧ V (m + 2) (V (m + 1) i) = 1) ∧
  (∀ i j, 0 ≤ i → i < V m 1 → 0 ≤ j → j < V m 1 → V (m + 1) i = V (m + 1) j → i = j) ∧
  (∀ p, 0 ≤ p → p < 200 → V (m + 2) p = 0 ∨ (V (m + 2) p = 1 ∧ ∃ i, 0 ≤ i ∧ i < V m 1 ∧ V (m + 1) i = p))
/-- the list of U goes on from that of V, by positions of E, and nothing else is changed -/
def QY (m : Int) (E : Int → Prop) (V U : ASt) : Prop :=
  (∀ a, a ≠ m → a ≠ m + 1 → a ≠ m + 2 → U a = V a) ∧ (∀ k, k ≠ 1 → U m k = V m k) ∧ V m 1 ≤ U m 1 ∧ (∀ i, i < V m 1 → U (m + 1) i = V (m + 1) i) ∧ (∀ q, V (m + 2) q = 1 → U (m + 2) q = 1) ∧ (∀ i, V m 1 ≤ i → i < U m 1 → E (U (m + 1) i))
theorem QY_rfl (m : Int) (E : Int → Prop) (V : ASt) : QY m E V V := ⟨fun _ _ _ _ => rfl, fun _ _ => rfl, Int.le_refl _, fun _ _ => rfl, fun _ h => h, fun i a b => by omega⟩
theorem QY_tr {m : Int} {E : Int → Prop} {V U W : ASt} (h : QY m E V U) (h2 : QY m E U W) : QY m E V W := by
  obtain ⟨a1, a2, a3, a4, a5, a6⟩ := h
  obtain ⟨b1, b2, b3, b4, b5, b6⟩ := h2
  refine ⟨fun a x y z => by rw [b1 a x y z, a1 a x y z], fun k hk => by rw [b2 k hk, a2 k hk], by omega, fun i hi => by rw [b4 i (by omega), a4 i hi], fun q hq => b5 q (a5 q hq), fun i x y => ?_⟩
  by_cases c : i < U m 1
  · rw [b4 i c]; exact a6 i x c
  · exact b6 i (by omega) y
theorem M_enlist {G : GM} (hG : GOK G) {m : Int} (hm : isMv m) {V : ASt} (h : QC G m V) {p : Int} (hp : p < 0 ∨ (0 ≤ p ∧ p < qPos G)) : Tr (f_Moves_enlist S0 V m p) (fun _ U => QC G m U ∧ QY m (fun q => q = p) V U ∧ (0 ≤ p → U (m + 2) p = 1)) := by
  have hq := qPos_le hG
  have hmm := hm
  unfold isMv at hmm
  unfold f_Moves_enlist
  rw [gd_t (OM hm)]
  refine Tr_if (fun c => Tr_ret ⟨h, QY_rfl m _ V, fun z => by omega⟩) (fun c => ?_)
  obtain ⟨h1, h2, h3, h4, h5⟩ := h
  rw [if_neg (by omega), FM_4 hm, AM2 hm, gd_in (by omega) (by omega)]
  refine Tr_if (fun c => ?_) (fun c => ?_)
  · have hx : V m 1 < 200 := pigeonX (f := V (m + 1)) (p := p) h1 (by omega) (fun i a b => by have := h3 i a b; omega) h4 (fun i a b e => by have := (h3 i a b).2.2; rw [e] at this; omega)
    refine Tr_set (fun V1 e1 n1 => ?_)
    rw [FM_3 hm, AM1 hm, n1 m (by omega), gd_in (by omega) (by omega)]
    refine Tr_set (fun V2 e2 n2 => ?_)
    rw [n2 m (by omega), n1 m (by omega), w32_id (by omega) (by omega)]
    refine Tr_set (fun V3 e3 n3 => ?_)
    have r142 : V3 m = upI (V m) 1 (V m 1 + 1) := by rw [e3, n2 m (by omega), n1 m (by omega)]
    have r178 : V3 (m + 2) = upI (V (m + 2)) p 1 := by rw [n3 _ (by omega), n2 _ (by omega), e1]
    have r179 : V3 (m + 1) = upI (V (m + 1)) (V m 1) p := by rw [n3 _ (by omega), e2, n1 _ (by omega)]
    refine Tr_ret ⟨?_, ?_, fun _ => by rw [r178, upI_s]⟩
    · unfold QC
      rw [r142, r178, r179, upI_s]
      refine ⟨by omega, by omega, fun i a b => ?_, fun i j a b a' b' e => ?_, fun q a b => ?_⟩
      · by_cases hi : i = V m 1
        · subst hi; rw [upI_s, upI_s]; omega
        · rw [upI_n _ _ hi]
          have := h3 i a (by omega)
          refine ⟨this.1, this.2.1, ?_⟩
          by_cases hh : V (m + 1) i = p
          · rw [hh, upI_s]
          · rw [upI_n _ _ hh]; exact this.2.2
      · by_cases hi : i = V m 1
        · subst hi
          rw [upI_s] at e
          by_cases hj : j = V m 1
          · omega
          · rw [upI_n _ _ hj] at e
            have := (h3 j a' (by omega)).2.2
            rw [← e] at this; omega
        · rw [upI_n _ _ hi] at e
          by_cases hj : j = V m 1
          · subst hj
            rw [upI_s] at e
            have := (h3 i a (by omega)).2.2
            rw [e] at this; omega
          · rw [upI_n _ _ hj] at e
            exact h4 i j a (by omega) a' (by omega) e
      · by_cases hh : q = p
        · subst hh
          rw [upI_s]
          exact Or.inr ⟨rfl, V m 1, h1, by omega, upI_s _ _ _⟩
        · rw [upI_n _ _ hh]
          rcases h5 q a b with k | ⟨k, i, i1, i2, i3⟩
          · exact Or.inl k
          · exact Or.inr ⟨k, i, i1, by omega, by rw [upI_n _ _ (by omega)]; exact i3⟩
    · unfold QY
      rw [r142, r178, r179]
      refine ⟨fun a a1 a2 a3 => by rw [n3 a a1, n2 a a2, n1 a a3], fun k hk => upI_n _ _ hk, by rw [upI_s]; omega, fun i hi => upI_n _ _ (by omega), fun q hq' => ?_, fun i a b => ?_⟩
      · by_cases hh : q = p
        · subst hh; rw [upI_s]
        · rw [upI_n _ _ hh]; exact hq'
      · rw [upI_s] at b
        rw [show i = V m 1 by omega, upI_s]
  · refine Tr_ret ⟨⟨h1, h2, h3, h4, h5⟩, QY_rfl m _ V, fun _ => ?_⟩
    rcases h5 p (by omega) (by omega) with k | ⟨k, -⟩
    · omega
    · exact k
theorem M_clearList {m : Int} (hm : isMv m) (G : GM) (V : ASt) : Tr (f_Moves_clearList S0 V m) (fun _ U => QC G m U ∧ U m 1 = 0 ∧ (∀ a, a ≠ m → a ≠ m + 2 → U a = V a) ∧ (∀ k, k ≠ 1 → U m k = V m k)) := by
  unfold f_Moves_clearList
  rw [gd_t (OM hm)]
  refine Tr_set (fun V1 e1 n1 => ?_)
  rw [FM_4 hm]
  refine Tr_bq (fill_ok (WM2 hm) (NM2 hm) (by decide) (by decide)) ?_
  generalize hV2 : arow V1 (m + 2) (fun j => if 0 ≤ j ∧ j < 200 then 0 else V1 (m + 2) j) = V2
  have am : V2 m = upI (V m) 1 0 := by rw [← hV2, arow_n _ _ (by omega), e1]
  have m1 : V2 m 1 = 0 := by rw [am, upI_s]
  refine Tr_ret ⟨⟨by omega, by omega, fun i a b => by omega, fun i j a b => by omega, fun p a b => Or.inl ?_⟩, m1, fun a a1 a2 => by rw [← hV2, arow_n _ _ a2, n1 a a1], fun k hk => by rw [am, upI_n _ _ hk]⟩
  rw [← hV2, arow_s, if_pos ⟨a, b⟩]
theorem enl_loop {G : GM} {s : SL} (hG : GOK G) (hs : SOK G s) {m p : Int} (hm : isMv m) (hp : 0 ≤ p ∧ p < qPos G) {V : ASt} (hv : mvH G s m V p) : ∀ (n j : Nat) (W : ASt), j ≤ (cds G s p).length → (cds G s p).length - j < n → QC G m W → QY m (fun q => q ∈ nx G s p) V W → (∀ i : Nat, i < j → 0 ≤ (nx G s p).getD i 0 → W (m + 2) ((nx G s p).getD i 0) = 1) →
    Tr (b_Moves_enlistNextsOf_L2 S0 m p n W j) (fun _ U => QC G m U ∧ QY m (fun q => q ∈ nx G s p) V U ∧ ∀ e, e ∈ nx G s p → 0 ≤ e → U (m + 2) e = 1) := by
  have hmm := hm
  unfold isMv at hmm
  have hq := qPos_le hG
  have hlen := cds_qR hG hs p
  have hR := hG.2.2.1
  intro n
  induction n with
  | zero => intro j W h1 h2; omega
  | succ n ih =>
    intro j W hj hn qW fW hdone
    rw [b_Moves_enlistNextsOf_L2, FM_5 hm, AM3 hm, gd_in (by omega) (by omega), fW.1 (m + 3) (by omega) (by omega) (by omega), hv.1.1]
    refine Tr_if (fun c => ?_) (fun c => ?_)
    · refine Tr_ret ⟨qW, fW, (all_idx (P := fun e => 0 ≤ e → W (m + 2) e = 1)).mpr fun i hi => hdone i ?_⟩
      rw [nx_len] at hi; omega
    have hjl : j < (cds G s p).length := by omega
    have hjn : j < (nx G s p).length := by rw [nx_len]; exact hjl
    have hmem := getD_mem hjn
    have hr := nx_r hG hp.1 hmem
    rw [w32_id (x := p * 12) (by omega) (by omega), w32_id (x := p * 12 + (j : Int)) (by omega) (by omega), show p * 12 + (j : Int) = 12 * p + j by omega, FM_7 hm, AM5 hm, gd_in (by omega) (by omega), fW.1 (m + 5) (by omega) (by omega) (by omega), hv.2 j hjl, w32_id (x := (j : Int) + 1) (by omega) (by omega), show (j : Int) + 1 = ((j + 1 : Nat) : Int) by omega]
    refine Tr_bnd (M_enlist hG hm qW (p := (nx G s p).getD j 0) (by omega)) ?_
    rintro y U ⟨u1, u2, u3⟩
    have u2' : QY m (fun q => q ∈ nx G s p) W U := ⟨u2.1, u2.2.1, u2.2.2.1, u2.2.2.2.1, u2.2.2.2.2.1, fun i a b => by have := u2.2.2.2.2.2 i a b; rw [this]; exact hmem⟩
    refine ih (j + 1) U (by omega) (by omega) u1 (QY_tr fW u2') (fun i hi h0 => ?_)
    by_cases z : i = j
    · subst z; exact u3 h0
    · exact u2.2.2.2.2.1 _ (hdone i (by omega) h0)
theorem M_enlistNexts {G : GM} {s : SL} (hG : GOK G) (hs : SOK G s) {m p : Int} (hm : isMv m) (hp : 0 ≤ p ∧ p < qPos G) {V : ASt} (hv : mvH G s m V p) (hQ : QC G m V) : Tr (f_Moves_enlistNextsOf S0 V m p) (fun _ U => QC G m U ∧ QY m (fun q => q ∈ nx G s p) V U ∧ ∀ e, e ∈ nx G s p → 0 ≤ e → U (m + 2) e = 1) := by
  unfold f_Moves_enlistNextsOf
  refine Tr_gd (OM hm) (enl_loop hG hs hm hp hv FU 0 V (Nat.zero_le _) (by rw [FU_v]; have := cds_le G s p; omega) hQ (QY_rfl m _ V) (fun i hi => absurd hi (Nat.not_lt_zero i)))
