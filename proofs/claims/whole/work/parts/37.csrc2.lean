/-! the class's values: findSources -/
theorem fs_L32 {G : GM} {s : SL} {v m z : Int} {V : ASt} (hG : GOK G) (hs : SOK G s) (hv : isVl v m z) (hL : LDC G s m V (V m 1)) {x : Nat} (hx : (x : Int) < V m 1) {K10 : ASt → Int → Option (Int × ASt)} {Q : Int → ASt → Prop}
    (hK : ∀ W : ASt, (∀ a, a ≠ z + 3 → W a = V a) → (∀ p, 0 ≤ p → p < 200 → W (z + 3) p = ed (nx G s) (V (m + 1)) p (x + 1)) → W (z + 3) 200 = 0 → Tr (K10 W (w32 ((x : Int) + 1))) Q) :
    ∀ (n j : Nat) (W : ASt), j ≤ (nx G s (V (m + 1) x)).length → (nx G s (V (m + 1) x)).length - j < n → (∀ a, a ≠ z + 3 → W a = V a) → (∀ p, 0 ≤ p → p < 200 → W (z + 3) p = ed (nx G s) (V (m + 1)) p x + cn p ((nx G s (V (m + 1) x)).take j)) → W (z + 3) 200 = 0 → Tr (b_Values_findSources_L32 S0 K10 v x (V (m + 1) x) n W j) Q := by
  have hvv := hv
  unfold isVl at hvv
  have hm := isVl_m hv
  have hq := qPos_le hG
  have h200 := hL.1.2.1
  have hp := LDC_in hG hL (i := x) (by omega) hx
  have hat := LDC_at hG hL hp
  have h12 := nx_12 hG hs (V (m + 1) x)
  intro n
  induction n with
  | zero => intro j W h1 h2; omega
  | succ n ih =>
    intro j W hj hn fW hr h0
    have vW : mvH G s m W (V (m + 1) x) := by
      unfold mvH cdH
      rw [fW (m + 3) (by omega), fW (m + 4) (by omega), fW (m + 5) (by omega)]; exact hat.2.1
    rw [b_Values_findSources_L32, FV_1 hv, gd_t (OM hm)]
    refine Tr_bq (M_countOf hm ⟨hp.1, hp.2.1⟩ vW) ?_
    refine Tr_if (fun c => ?_) (fun c => ?_)
    · have : j = (nx G s (V (m + 1) x)).length := by omega
      subst this
      refine hK W fW (fun p p0 p1 => ?_) h0
      rw [hr p p0 p1, List.take_length, ed]
    have hjl : j < (nx G s (V (m + 1) x)).length := by omega
    refine Tr_bq (M_nextOf hG hs hm ⟨hp.1, hp.2.1⟩ vW hjl) ?_
    have hrange := hat.2.2.1 _ (getD_mem hjl)
    have hct := fun p => cn_take (p := p) hjl
    have ihh := ih (j + 1)
    rw [show ((j + 1 : Nat) : Int) = (j : Int) + 1 by omega] at ihh
    rw [w32_id (x := (j : Int) + 1) (by omega) (by omega)]
    generalize (nx G s (V (m + 1) x)).getD j 0 = e at *
    refine Tr_if (fun c1 => ?_) (fun c1 => ?_)
    · refine ihh W (by omega) (by omega) fW (fun p p0 p1 => ?_) h0
      rw [hr p p0 p1, hct, if_neg (by omega)]; omega
    rw [if_neg (by omega), FV_5 hv, AV3 hv, gd_in (by omega) (by omega), hr e (by omega) (by omega)]
    have b1 := ed_r (M := nx G s) (L := V (m + 1)) e (nx_12 hG hs) x
    have b2 := cn_take_le e (nx G s (V (m + 1) x)) j
    have b3 := cn_r e (nx G s (V (m + 1) x))
    rw [w32_id (by omega) (by omega)]
    refine Tr_set (fun V1 e1 n1 => ?_)
    refine ihh V1 (by omega) (by omega) (fun a ha => by rw [n1 a ha, fW a ha]) (fun p p0 p1 => ?_) (by rw [e1, upI_n _ _ (by omega)]; exact h0)
    rw [e1, hct]
    by_cases hpe : p = e
    · subst hpe; rw [upI_s, if_pos rfl]; omega
    · rw [upI_n _ _ hpe, hr p p0 p1, if_neg (fun h => hpe h.symm)]; omega
theorem fs_L10 {G : GM} {s : SL} {v m z : Int} {V : ASt} (hG : GOK G) (hs : SOK G s) (hv : isVl v m z) (hL : LDC G s m V (V m 1)) {Q : Int → ASt → Prop}
    (hK : ∀ W : ASt, (∀ a, a ≠ z + 3 → W a = V a) → (∀ p, 0 ≤ p → p < 200 → W (z + 3) p = ed (nx G s) (V (m + 1)) p (V m 1).toNat) → W (z + 3) 200 = 0 → Tr (b_Values_findSources_L93 S0 v FU W 1) Q) :
    ∀ (n x : Nat) (W : ASt), (x : Int) ≤ V m 1 → V m 1 - x < n → (∀ a, a ≠ z + 3 → W a = V a) → (∀ p, 0 ≤ p → p < 200 → W (z + 3) p = ed (nx G s) (V (m + 1)) p x) → W (z + 3) 200 = 0 → Tr (b_Values_findSources_L10 S0 v n W x) Q := by
  have hvv := hv
  unfold isVl at hvv
  have hm := isVl_m hv
  have h200 := hL.1.2.1
  have h0' := hL.1.1
  intro n
  induction n with
  | zero => intro x W h1 h2; omega
  | succ n ih =>
    intro x W hx hn fW hr h0
    rw [b_Values_findSources_L10, FV_1 hv, gd_t (OM hm), fW m (by omega)]
    refine Tr_if (fun c => ?_) (fun c => ?_)
    · refine hK W fW ?_ h0
      rw [show (V m 1).toNat = x by omega]; exact hr
    have hW1 : W m 1 = V m 1 := by rw [fW m (by omega)]
    refine Tr_bq (M_listedAt hm (i := (x : Int)) (by omega) (by omega) (by omega)) ?_
    rw [fW (m + 1) (by omega)]
    refine fs_L32 hG hs hv hL (x := x) (by omega) (fun U fU hU h0U => ?_) FU 0 W (Nat.zero_le _) (by rw [FU_v]; have := nx_12 hG hs (V (m + 1) x); omega) fW (fun p p0 p1 => by rw [hr p p0 p1, List.take_zero, cn]; omega) h0
    rw [w32_id (by omega) (by omega), show (x : Int) + 1 = ((x + 1 : Nat) : Int) by omega]
    exact ih (x + 1) U (by omega) (by omega) fU hU h0U
theorem fs_L93 {v m z : Int} {V : ASt} {N : Int → Int} (hv : isVl v m z) (hN : ∀ i, 0 ≤ N i) (hb : ∀ k : Nat, k ≤ 201 → pre N k ≤ 2400) {Q : Int → ASt → Prop}
    (hK : ∀ W : ASt, (∀ a, a ≠ z + 3 → W a = V a) → (∀ p : Nat, p ≤ 200 → W (z + 3) p = pre N (p + 1)) → Tr (b_Values_findSources_L125 S0 v FU W 0) Q) :
    ∀ (n x : Nat) (W : ASt), 1 ≤ x → x ≤ 201 → 201 - x < n → (∀ a, a ≠ z + 3 → W a = V a) → (∀ p : Nat, p < x → W (z + 3) p = pre N (p + 1)) → (∀ p : Nat, x ≤ p → p ≤ 200 → W (z + 3) p = N p) → Tr (b_Values_findSources_L93 S0 v n W x) Q := by
  intro n
  induction n with
  | zero => intro x W h1 h2 h3; omega
  | succ n ih =>
    intro x W x1 x2 hn fW hlo hhi
    rw [b_Values_findSources_L93]
    refine Tr_if (fun c => hK W fW (fun p hp => hlo p (by omega))) (fun c => ?_)
    have e1 := hlo (x - 1) (by omega)
    rw [show x - 1 + 1 = x by omega, show (((x - 1 : Nat) : Int)) = (x : Int) - 1 by omega] at e1
    have e2 := hhi x (Nat.le_refl _) (by omega)
    have b1 := hb x (by omega)
    have b2 := hb (x + 1) (by omega)
    have b3 := pre_mono hN 0 x
    rw [pre] at b2
    rw [show 0 + x = x by omega, pre] at b3
    have b4 := hN x
    rw [FV_5 hv, AV3 hv, AV3 hv, gd_in (by omega) (by omega), w32_id (x := (x : Int) - 1) (by omega) (by omega), gd_in (by omega) (by omega), e1, e2, w32_id (x := N x + pre N x) (by omega) (by omega)]
    refine Tr_set (fun V1 v1 n1 => ?_)
    rw [w32_id (x := (x : Int) + 1) (by omega) (by omega), show (x : Int) + 1 = ((x + 1 : Nat) : Int) by omega]
    refine ih (x + 1) V1 (by omega) (by omega) (by omega) (fun a ha => by rw [n1 a ha, fW a ha]) (fun p hp => ?_) (fun p h1 h2 => by rw [v1, upI_n _ _ (by omega)]; exact hhi p (by omega) h2)
    by_cases z' : p = x
    · subst z'; rw [v1, upI_s, pre]; omega
    · rw [v1, upI_n _ _ (by omega)]; exact hlo p (by omega)
/-- the segments as far as filled: done p of those that lead to p -/
def SG3 (N : Int → Int) (st src : Int → Int) (done : Int → Int) (dn2 : Int → Int → Int) : Prop :=
  ∀ p : Nat, p < 200 → st p = pre N (p + 1) - done p ∧ 0 ≤ done p ∧ done p ≤ N p ∧ ∀ q, cI src q (st p) (done p).toNat = dn2 p q
theorem SG3_step {N st src done : Int → Int} {dn2 : Int → Int → Int} (hN : ∀ i, 0 ≤ N i) (h : SG3 N st src done dn2) {e q0 : Int} (he : 0 ≤ e ∧ e < 200) (hd : done e + 1 ≤ N e) :
    0 ≤ st e - 1 ∧ SG3 N (upI st e (st e - 1)) (upI src (st e - 1) q0) (fun p => done p + (if e = p then 1 else 0)) (fun p q => dn2 p q + (if e = p ∧ q0 = q then 1 else 0)) := by
  have hen : ((e.toNat : Nat) : Int) = e := cast_t he.1
  obtain ⟨h1, h2, h3, h4⟩ := h e.toNat (by omega)
  rw [hen] at h1 h2 h3 h4
  have hpe : pre N (e.toNat + 1) = pre N e.toNat + N e := by rw [pre, hen]
  have hp0 := pre_mono hN 0 e.toNat
  rw [show 0 + e.toNat = e.toNat by omega, pre] at hp0
  refine ⟨by omega, fun p hp => ?_⟩
  obtain ⟨g1, g2, g3, g4⟩ := h p hp
  by_cases c : e = (p : Int)
  · have hpp : p = e.toNat := by omega
    subst hpp
    dsimp only
    rw [hen, upI_s, if_pos rfl]
    refine ⟨by omega, by omega, by omega, fun q => ?_⟩
    rw [show (done e + 1).toNat = (done e).toNat + 1 by omega, cI, upI_s, show st e - 1 + 1 = st e by omega]
    have := h4 q
    rw [cI_congr (f := upI src (st e - 1) q0) (g := src) (done e).toNat (st e) (fun i a b => upI_n _ _ (by omega)), this]
    by_cases d : q0 = q
    · rw [if_pos d, if_pos ⟨rfl, d⟩]; omega
    · rw [if_neg d, if_neg (fun z => d z.2)]; omega
  · dsimp only
    rw [upI_n _ _ (fun z => c z.symm), if_neg c, Int.add_zero]
    refine ⟨g1, g2, g3, fun q => ?_⟩
    rw [if_neg (fun z => c z.1), Int.add_zero, ← g4 q]
    refine cI_congr _ _ (fun i a b => upI_n _ _ ?_)
    have hpp : pre N (p + 1) = pre N p + N p := by rw [pre]
    by_cases hlt : (p : Int) < e
    · have := pre_mono hN (p + 1) (e.toNat - (p + 1))
      rw [show p + 1 + (e.toNat - (p + 1)) = e.toNat by omega] at this
      omega
    · have := pre_mono hN (e.toNat + 1) (p - (e.toNat + 1))
      rw [show e.toNat + 1 + (p - (e.toNat + 1)) = p by omega] at this
      omega
/-- where moves come from -/
def FS (G : GM) (s : SL) (m z : Int) (V : ASt) : Prop := ∀ p, 0 ≤ p → p < 200 → 0 ≤ V (z + 3) p ∧ V (z + 3) p ≤ V (z + 3) (p + 1) ∧ V (z + 3) (p + 1) ≤ 2400 ∧ (∀ i, V (z + 3) p ≤ i → i < V (z + 3) (p + 1) → lP m V (V (z + 4) i) ∧ p ∈ nx G s (V (z + 4) i)) ∧ (∀ q, lP m V q → cI (V (z + 4)) q (V (z + 3) p) (V (z + 3) (p + 1) - V (z + 3) p).toNat = cn p (nx G s q))
theorem fs_L147 {G : GM} {s : SL} {v m z : Int} {V : ASt} {N : Int → Int} (hG : GOK G) (hs : SOK G s) (hv : isVl v m z) (hL : LDC G s m V (V m 1)) (hN : ∀ i, 0 ≤ N i) (hb : ∀ k : Nat, k ≤ 201 → pre N k ≤ 2400) (hNe : ∀ p, 0 ≤ p → p < 200 → N p = ed (nx G s) (V (m + 1)) p (V m 1).toNat) {x : Nat} (hx : (x : Int) < V m 1) {K : ASt → Int → Option (Int × ASt)} {Q : Int → ASt → Prop}
    (hK : ∀ W : ASt, (∀ a, a ≠ z + 3 → a ≠ z + 4 → W a = V a) → SG3 N (W (z + 3)) (W (z + 4)) (fun p => ed (nx G s) (V (m + 1)) p (x + 1)) (fun p q => ed2 (nx G s) (V (m + 1)) p q (x + 1)) → W (z + 3) 200 = pre N 201 → Tr (K W (w32 ((x : Int) + 1))) Q) :
    ∀ (n j : Nat) (W : ASt), j ≤ (nx G s (V (m + 1) x)).length → (nx G s (V (m + 1) x)).length - j < n → (∀ a, a ≠ z + 3 → a ≠ z + 4 → W a = V a) → SG3 N (W (z + 3)) (W (z + 4)) (fun p => ed (nx G s) (V (m + 1)) p x + cn p ((nx G s (V (m + 1) x)).take j)) (fun p q => ed2 (nx G s) (V (m + 1)) p q x + (if V (m + 1) x = q then cn p ((nx G s (V (m + 1) x)).take j) else 0)) → W (z + 3) 200 = pre N 201 →
      Tr (b_Values_findSources_L147 S0 K v x (V (m + 1) x) n W j) Q := by
  have hvv := hv
  unfold isVl at hvv
  have hm := isVl_m hv
  have hq := qPos_le hG
  have h200 := hL.1.2.1
  have hp := LDC_in hG hL (i := x) (by omega) hx
  have hat := LDC_at hG hL hp
  have h12 := nx_12 hG hs (V (m + 1) x)
  intro n
  induction n with
  | zero => intro j W h1 h2; omega
  | succ n ih =>
    intro j W hj hn fW hr h0
    have vW : mvH G s m W (V (m + 1) x) := by
      unfold mvH cdH
      rw [fW (m + 3) (by omega) (by omega), fW (m + 4) (by omega) (by omega), fW (m + 5) (by omega) (by omega)]; exact hat.2.1
    rw [b_Values_findSources_L147, FV_1 hv, gd_t (OM hm)]
    refine Tr_bq (M_countOf hm ⟨hp.1, hp.2.1⟩ vW) ?_
    refine Tr_if (fun c => ?_) (fun c => ?_)
    · have : j = (nx G s (V (m + 1) x)).length := by omega
      subst this
      refine hK W fW ?_ h0
      rw [List.take_length] at hr
      exact hr
    have hjl : j < (nx G s (V (m + 1) x)).length := by omega
    refine Tr_bq (M_nextOf hG hs hm ⟨hp.1, hp.2.1⟩ vW hjl) ?_
    have hrange := hat.2.2.1 _ (getD_mem hjl)
    have hct := fun p => cn_take (p := p) hjl
    have ihh := ih (j + 1)
    rw [show ((j + 1 : Nat) : Int) = (j : Int) + 1 by omega] at ihh
    rw [w32_id (x := (j : Int) + 1) (by omega) (by omega)]
    have hctle := fun p => cn_take_le p (nx G s (V (m + 1) x)) (j + 1)
    generalize (nx G s (V (m + 1) x)).getD j 0 = e at *
    refine Tr_if (fun c1 => ?_) (fun c1 => ?_)
    · refine ihh W (by omega) (by omega) fW (fun p hp' => ?_) h0
      dsimp only
      rw [hct, if_neg (show ¬ (e = (p : Int)) by omega), Int.add_zero]
      exact hr p hp'
    rw [if_neg (by omega), FV_5 hv, AV3 hv, gd_in (by omega) (by omega)]
    have hdone : ed (nx G s) (V (m + 1)) e x + cn e ((nx G s (V (m + 1) x)).take j) + 1 ≤ N e := by
      have a1 := hct e
      rw [if_pos rfl] at a1
      have a2 := hctle e
      have a3 := ed_mono (M := nx G s) (L := V (m + 1)) e (x + 1) ((V m 1).toNat - (x + 1))
      rw [show x + 1 + ((V m 1).toNat - (x + 1)) = (V m 1).toNat by omega, ed] at a3
      rw [hNe e (by omega) (by omega)]
      omega
    obtain ⟨hst0, hnew⟩ := SG3_step hN hr (q0 := V (m + 1) x) (e := e) (by omega) hdone
    have hse := hr e.toNat (by omega)
    rw [cast_t (by omega)] at hse
    have hpre := hb (e.toNat + 1) (by omega)
    rw [w32_id (x := W (z + 3) e - 1) (by omega) (by omega)]
    refine Tr_set (fun V1 v1 n1 => ?_)
    have s1 : V1 (z + 3) e = W (z + 3) e - 1 := by rw [v1, upI_s]
    rw [FV_6 hv, s1, AV4 hv, gd_in (by omega) (by omega)]
    refine Tr_set (fun V2 v2 n2 => ?_)
    have r3 : V2 (z + 3) = upI (W (z + 3)) e (W (z + 3) e - 1) := by rw [n2 _ (by omega), v1]
    have r4 : V2 (z + 4) = upI (W (z + 4)) (W (z + 3) e - 1) (V (m + 1) x) := by rw [v2, n1 _ (by omega)]
    refine ihh V2 (by omega) (by omega) (fun a a1 a2 => by rw [n2 a a2, n1 a a1, fW a a1 a2]) (fun p hp' => ?_) (by rw [r3, upI_n _ _ (by omega)]; exact h0)
    dsimp only
    rw [r3, r4, hct]
    have := hnew p hp'
    dsimp only at this
    refine ⟨by omega, by omega, by omega, fun q => ?_⟩
    have t4 := this.2.2.2 q
    rw [show ed (nx G s) (V (m + 1)) (p : Int) x + (cn (p : Int) ((nx G s (V (m + 1) x)).take j) + (if e = (p : Int) then 1 else 0)) = ed (nx G s) (V (m + 1)) (p : Int) x + cn (p : Int) ((nx G s (V (m + 1) x)).take j) + (if e = (p : Int) then 1 else 0) by omega, t4]
    by_cases c2 : V (m + 1) x = q
    · rw [if_pos c2, if_pos c2]
      by_cases c3 : e = (p : Int)
      · rw [if_pos ⟨c3, c2⟩, if_pos c3]; omega
      · rw [if_neg (fun y => c3 y.1), if_neg c3]; omega
    · rw [if_neg c2, if_neg c2, if_neg (fun y => c2 y.2)]; omega
theorem fs_L125 {G : GM} {s : SL} {v m z : Int} {V : ASt} {N : Int → Int} (hG : GOK G) (hs : SOK G s) (hv : isVl v m z) (hL : LDC G s m V (V m 1)) (hN : ∀ i, 0 ≤ N i) (hb : ∀ k : Nat, k ≤ 201 → pre N k ≤ 2400) (hNe : ∀ p, 0 ≤ p → p < 200 → N p = ed (nx G s) (V (m + 1)) p (V m 1).toNat) :
    ∀ (n x : Nat) (W : ASt), (x : Int) ≤ V m 1 → V m 1 - x < n → (∀ a, a ≠ z + 3 → a ≠ z + 4 → W a = V a) → SG3 N (W (z + 3)) (W (z + 4)) (fun p => ed (nx G s) (V (m + 1)) p x) (fun p q => ed2 (nx G s) (V (m + 1)) p q x) → W (z + 3) 200 = pre N 201 →
      Tr (b_Values_findSources_L125 S0 v n W x) (fun _ U => (∀ a, a ≠ z + 3 → a ≠ z + 4 → U a = V a) ∧ SG3 N (U (z + 3)) (U (z + 4)) (fun p => ed (nx G s) (V (m + 1)) p (V m 1).toNat) (fun p q => ed2 (nx G s) (V (m + 1)) p q (V m 1).toNat) ∧ U (z + 3) 200 = pre N 201) := by
  have hvv := hv
  unfold isVl at hvv
  have hm := isVl_m hv
  have h200 := hL.1.2.1
  have h0' := hL.1.1
  intro n
  induction n with
  | zero => intro x W h1 h2; omega
  | succ n ih =>
    intro x W hx hn fW hr h0
    rw [b_Values_findSources_L125, FV_1 hv, gd_t (OM hm), fW m (by omega) (by omega)]
    refine Tr_if (fun c => ?_) (fun c => ?_)
    · refine Tr_ret ⟨fW, ?_, h0⟩
      rw [show (V m 1).toNat = x by omega]; exact hr
    have hW1 : W m 1 = V m 1 := by rw [fW m (by omega) (by omega)]
    refine Tr_bq (M_listedAt hm (i := (x : Int)) (by omega) (by omega) (by omega)) ?_
    rw [fW (m + 1) (by omega) (by omega)]
    refine fs_L147 hG hs hv hL hN hb hNe (x := x) (by omega) (fun U fU hU h0U => ?_) FU 0 W (Nat.zero_le _) (by rw [FU_v]; have := nx_12 hG hs (V (m + 1) x); omega) fW ?_ h0
    · rw [w32_id (by omega) (by omega), show (x : Int) + 1 = ((x + 1 : Nat) : Int) by omega]
      exact ih (x + 1) U (by omega) (by omega) fU hU h0U
    · intro p hp
      have := hr p hp
      simp only [List.take_zero, cn, Int.add_zero]
      refine ⟨this.1, this.2.1, this.2.2.1, fun q => ?_⟩
      rw [this.2.2.2 q]
      dsimp only
      by_cases c2 : V (m + 1) x = q
      · rw [if_pos c2]; omega
      · rw [if_neg c2]; omega
theorem V_findSources {G : GM} {s : SL} {v m z : Int} {V : ASt} (hG : GOK G) (hs : SOK G s) (hv : isVl v m z) (hL : LDC G s m V (V m 1)) : Tr (f_Values_findSources S0 V v) (fun _ U => (∀ a, a ≠ z + 3 → a ≠ z + 4 → U a = V a) ∧ FS G s m z U) := by
  have hvv := hv
  unfold isVl at hvv
  have hm := isVl_m hv
  have h200 := hL.1.2.1
  have h0' := hL.1.1
  unfold f_Values_findSources
  rw [gd_t (OV hv), FV_5 hv]
  refine Tr_bq (fill_ok (WV3 hv) (NV3 hv) (by decide) (by decide)) ?_
  generalize hV1 : arow V (z + 3) (fun j => if 0 ≤ j ∧ j < 201 then 0 else V (z + 3) j) = V1
  have f1 : ∀ a, a ≠ z + 3 → V1 a = V a := fun a ha => by rw [← hV1, arow_n _ _ ha]
  have r1 : ∀ p, 0 ≤ p → p < 201 → V1 (z + 3) p = 0 := fun p a b => by rw [← hV1, arow_s, if_pos ⟨a, b⟩]
  have hbd := nx_12 hG hs
  -- how many lead to each
  have hN : ∀ i : Int, 0 ≤ (if i = 200 then 0 else ed (nx G s) (V (m + 1)) i (V m 1).toNat) := by
    intro i
    by_cases c : i = 200
    · rw [if_pos c]; exact Int.le_refl _
    · rw [if_neg c]; exact (ed_r i hbd _).1
  have hpre : ∀ k : Nat, k ≤ 200 → pre (fun i => if i = 200 then 0 else ed (nx G s) (V (m + 1)) i (V m 1).toNat) k = pre (fun i => ed (nx G s) (V (m + 1)) i (V m 1).toNat) k := by
    intro k
    induction k with
    | zero => intro _; rfl
    | succ k ih => intro hk; rw [pre, pre, ih (by omega), if_neg (by omega)]
  have hb : ∀ k : Nat, k ≤ 201 → pre (fun i => if i = 200 then 0 else ed (nx G s) (V (m + 1)) i (V m 1).toNat) k ≤ 2400 := by
    intro k hk
    have h1 := fun k => pre_ed (M := nx G s) (L := V (m + 1)) hbd k (V m 1).toNat
    by_cases c : k ≤ 200
    · rw [hpre k c]; have := h1 k; omega
    · rw [show k = 200 + 1 by omega, pre, hpre 200 (by omega), if_pos (by decide)]; have := h1 200; omega
  generalize hNN : (fun i : Int => if i = 200 then 0 else ed (nx G s) (V (m + 1)) i (V m 1).toNat) = N at *
  have hN' : ∀ i, 0 ≤ N i := fun i => by rw [← hNN]; exact hN i
  have hNe : ∀ p, 0 ≤ p → p < 200 → N p = ed (nx G s) (V (m + 1)) p (V m 1).toNat := fun p a b => by rw [← hNN]; exact if_neg (by omega)
  have hN2 : N 200 = 0 := by rw [← hNN]; exact if_pos rfl
  have L1 : LDC G s m V1 (V1 m 1) := by
    rw [show V1 m 1 = V m 1 by rw [f1 m (by omega)]]
    exact LDC_fr (fun o _ _ => f1 _ (by omega)) hL
  have em : V1 m = V m := f1 m (by omega)
  have em1 : V1 (m + 1) = V (m + 1) := f1 _ (by omega)
  refine fs_L10 hG hs hv L1 (fun W fW hW h0W => ?_) FU 0 V1 (by rw [em]; omega) (by rw [FU_v, em]; omega) (fun _ _ => rfl) (fun p a b => by rw [r1 p a (by omega)]; rfl) (r1 200 (by decide) (by decide))
  rw [em, em1] at hW
  refine fs_L93 (V := V) hv hN' hb (fun U fU hU => ?_) FU 1 W (by decide) (by decide) (by rw [FU_v]; omega) (fun a ha => by rw [fW a ha, f1 a ha]) (fun p hp => ?_) (fun p h1 h2 => ?_)
  · have LU : LDC G s m U (U m 1) := by
      rw [show U m 1 = V m 1 by rw [fU m (by omega)]]
      exact LDC_fr (fun o _ _ => fU _ (by omega)) hL
    have um : U m = V m := fU m (by omega)
    have um1 : U (m + 1) = V (m + 1) := fU _ (by omega)
    have hm' := fs_L125 hG hs hv LU hN' hb (by rw [um, um1]; exact hNe) FU 0 U (by rw [um]; omega) (by rw [FU_v, um]; omega) (fun _ _ _ => rfl) (fun p hp => ⟨by have := hU p (by omega); simp only [ed]; omega, Int.le_refl _, hN' p, fun q => rfl⟩) (hU 200 (by decide))
    rw [um, um1] at hm'
    refine Tr_mono hm' ?_
    rintro r Z ⟨z1, z2, z3⟩
    refine ⟨fun a a1 a2 => by rw [z1 a a1 a2, fU a a1], fun p p0 p1 => ?_⟩
    have zm : ∀ o, 0 ≤ o → o ≤ 5 → Z (m + o) = V (m + o) := fun o _ _ => by rw [z1 _ (by omega) (by omega), fU _ (by omega)]
    have hst : ∀ k : Nat, k ≤ 200 → Z (z + 3) k = pre N k := by
      intro k hk
      by_cases c : k = 200
      · subst c
        have : Z (z + 3) ((200 : Nat) : Int) = pre N 201 := z3
        rw [this, pre, show N ((200 : Nat) : Int) = 0 from hN2]; omega
      · have := (z2 k (by omega)).1
        dsimp only at this
        rw [this, pre, ← hNe k (by omega) (by omega)]; omega
    have hpn : ((p.toNat : Nat) : Int) = p := cast_t p0
    have s0 := hst p.toNat (by omega)
    have s1 := hst (p.toNat + 1) (by omega)
    rw [hpn] at s0
    rw [show ((p.toNat + 1 : Nat) : Int) = p + 1 by omega] at s1
    have hs3 := z2 p.toNat (by omega)
    rw [hpn] at hs3
    have hlen : (Z (z + 3) (p + 1) - Z (z + 3) p).toNat = (ed (nx G s) (V (m + 1)) p (V m 1).toNat).toNat := by
      rw [s1, s0, pre, hpn, ← hNe p p0 p1]; congr 1; omega
    have p0' := pre_mono hN' 0 p.toNat
    rw [show 0 + p.toNat = p.toNat by omega, pre] at p0'
    have pb := hb (p.toNat + 1) (by omega)
    have hpp : pre N (p.toNat + 1) = pre N p.toNat + N p := by rw [pre, hpn]
    have hNp := hN' p
    have inj : ∀ i j : Nat, i < (V m 1).toNat → j < (V m 1).toNat → V (m + 1) i = V (m + 1) j → i = j := by
      intro i j hi hj e
      have := hL.1.2.2.2.1 i j (by omega) (by omega) (by omega) (by omega) e
      omega
    have hm2 : Z (m + 2) = V (m + 2) := zm 2 (by decide) (by decide)
    have hcnt : ∀ q, lP m Z q → cI (Z (z + 4)) q (Z (z + 3) p) (Z (z + 3) (p + 1) - Z (z + 3) p).toNat = cn p (nx G s q) := by
      intro q hq
      have hq' : lP m V q := by unfold lP at *; rw [hm2] at hq; exact hq
      obtain ⟨-, -, -, i, i0, i1, i2⟩ := LDC_at hG hL hq'
      rw [hlen, hs3.2.2.2 q]
      refine ed2_1 _ inj ⟨i.toNat, by omega, by rw [cast_t i0]; exact i2⟩
    refine ⟨by omega, by omega, by omega, fun i a b => ?_, hcnt⟩
    have hlp : lP m Z (Z (z + 4) i) := by
      have hc := cI_pos (f := Z (z + 4)) (q := Z (z + 4) i) (Z (z + 3) (p + 1) - Z (z + 3) p).toNat (Z (z + 3) p) i a (by omega) rfl
      rw [hlen, hs3.2.2.2] at hc
      dsimp only at hc
      obtain ⟨k, k1, k2⟩ := ed2_w _ (show ed2 (nx G s) (V (m + 1)) p (Z (z + 4) i) (V m 1).toNat ≠ 0 by omega)
      have := LDC_in hG hL (i := k) (by omega) (by omega)
      rw [k2] at this
      unfold lP at *
      rw [hm2]; exact this
    refine ⟨hlp, cn_mem ?_⟩
    rw [← hcnt _ hlp]
    exact cI_pos _ _ i a (by omega) rfl
  · have : p = 0 := by omega
    subst this
    have := hW 0 (by decide) (by decide)
    rw [show ((0 : Nat) : Int) = 0 from rfl, this, pre, pre, show ((0 : Nat) : Int) = 0 from rfl, hNe 0 (by decide) (by decide)]; omega
  · by_cases c : p = 200
    · subst c
      rw [show ((200 : Nat) : Int) = 200 from rfl, h0W, hN2]
    · rw [hW p (by omega) (by omega), hNe p (by omega) (by omega)]
