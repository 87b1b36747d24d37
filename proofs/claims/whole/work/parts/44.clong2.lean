/-! the longest row: the class's, by the machine -/
def frK (v z : Int) (V U : ASt) : Prop := (∀ a, a ≠ v → a ≠ z + 2 → a ≠ z + 5 → a ≠ z + 6 → U a = V a) ∧ (∀ k, k ≠ 8 → U v k = V v k)
theorem V_enqueue {v m z : Int} {W : ASt} (hv : isVl v m z) (h0 : 0 ≤ W v 8) (h1 : W v 8 < 200) (q : Int) :
    Tr (f_Values_enqueue S0 W v q) (fun _ U => U (z + 5) = upI (W (z + 5)) (W v 8) q ∧ U v = upI (W v) 8 (W v 8 + 1) ∧ ∀ a, a ≠ v → a ≠ z + 5 → U a = W a) := by
  have hvv := hv
  unfold isVl at hvv
  unfold f_Values_enqueue
  rw [gd_t (OV hv), if_neg (by omega), FV_7 hv, AV5 hv, gd_in (by omega) (by omega)]
  refine Tr_set (fun V3 e3 n3 => ?_)
  rw [n3 v (by omega), w32_id (by omega) (by omega)]
  refine Tr_set (fun V4 e4 n4 => Tr_ret ⟨by rw [n4 _ (by omega), e3], by rw [e4, n3 v (by omega)], fun a a1 a2 => by rw [n4 a a1, n3 a a2]⟩)
theorem KQ_199 {D : Int → Prop} {Q : Int → Int} {n q : Int} (h : KQ D Q n) (hD : ∀ q, D q → 0 ≤ q ∧ q < 200) (hq : D q) (h0 : ∀ i, 0 ≤ i → i < n → Q i ≠ q) : n < 200 :=
  pigeonX (f := Q) (p := q) h.1 (hD q hq) (fun i a b => hD _ (h.2.1 i a b)) h.2.2 (fun i a b e => h0 i a b e)
theorem le_L7 {G : GM} {s : SL} {v m z : Int} {V : ASt} (hG : GOK G) (hs : SOK G s) (hv : isVl v m z) (hL : LDC G s m V (V m 1)) (hF : FS G s m z V) {h : Int} {pr : Int → Int} {p : Int} (hp : lP m V p) (hh200 : h < 200) :
    ∀ (f k : Nat) (W : ASt), (k : Int) ≤ V (z + 3) (p + 1) - V (z + 3) p → V (z + 3) (p + 1) - V (z + 3) p - k < f → frK v z V W → h < W v 8 → W (z + 5) h = p → KI (nx G s) (lP m V) (W (z + 6)) (W (z + 2)) (W (z + 5)) (W v 8) h pr p (fun q => cI (V (z + 4)) q (V (z + 3) p) k) →
      Tr (b_Values_lengthenSourcesOf_L7 S0 v p f W (V (z + 3) p + k)) (fun _ U => frK v z V U ∧ h < U v 8 ∧ U (z + 5) h = p ∧ KI (nx G s) (lP m V) (U (z + 6)) (U (z + 2)) (U (z + 5)) (U v 8) h pr p (fun q => cI (V (z + 4)) q (V (z + 3) p) (V (z + 3) (p + 1) - V (z + 3) p).toNat)) := by
  have hvv := hv
  unfold isVl at hvv
  have hm := isVl_m hv
  have hcl := LDC_cl hG hL
  obtain ⟨s1, s2, s3, s4, s5⟩ := hF p hp.1 hp.2.1
  have hp0 := hp.1
  have hp1 := hp.2.1
  intro f
  induction f with
  | zero => intro k W h1 h2; omega
  | succ f ih =>
    intro k W hk hf fW hlt hQh hB
    have c3 : W (z + 3) = V (z + 3) := fW.1 _ (by omega) (by omega) (by omega) (by omega)
    have c4 : W (z + 4) = V (z + 4) := fW.1 _ (by omega) (by omega) (by omega) (by omega)
    rw [b_Values_lengthenSourcesOf_L7, FV_5 hv, w32_id (x := p + 1) (by omega) (by omega), AV3 hv, gd_in (by omega) (by omega), c3]
    refine Tr_if (fun c => ?_) (fun c => ?_)
    · refine Tr_ret ⟨fW, hlt, hQh, ?_⟩
      rw [show (V (z + 3) (p + 1) - V (z + 3) p).toNat = k by omega]; exact hB
    obtain ⟨hq, hpm⟩ := s4 (V (z + 3) p + k) (by omega) (by omega)
    have hsum := sg_s (V (z + 4)) (V (z + 3) p) k
    have hcnt := s5 _ hq
    have hle := cI_le (V (z + 4)) (V (z + 4) (V (z + 3) p + k)) (V (z + 3) p) (k + 1) ((V (z + 3) (p + 1) - V (z + 3) p).toNat - (k + 1))
    rw [show k + 1 + ((V (z + 3) (p + 1) - V (z + 3) p).toNat - (k + 1)) = (V (z + 3) (p + 1) - V (z + 3) p).toNat by omega, hcnt, cI_snoc, if_pos rfl] at hle
    rw [FV_6 hv, AV4 hv, gd_in (by omega) (by omega), c4]
    have h12 := nx_12 hG hs (V (z + 4) (V (z + 3) p + k))
    have hcn := cn_r p (nx G s (V (z + 4) (V (z + 3) p + k)))
    have hci := cI_0 (V (z + 4)) (V (z + 4) (V (z + 3) p + k)) k (V (z + 3) p)
    generalize V (z + 4) (V (z + 3) p + k) = q at *
    have hq0 := hq.1
    have hq1 := hq.2.1
    have hlf := hB.2.2.2.2.1 q hq
    dsimp only at hlf
    have hrm := rem_r hB.2.2.1 (nx G s q)
    obtain ⟨e1', e2', e3', e4', e5'⟩ := KI_edge hcl hB hq hlt hQh hpm hp0 hle
    have hrq := (hB.2.2.2.2.2.2.1 q hq)
    rw [FV_9 hv, AV6 hv, gd_in hq0 hq1, AV6 hv, gd_in hp0 hp1, w32_id (x := W (z + 6) p + 1) (by omega) (by omega)]
    have hmax : f_Math_max_II S0 W (W (z + 6) q) (W (z + 6) p + 1) = some (if W (z + 6) q < W (z + 6) p + 1 then W (z + 6) p + 1 else W (z + 6) q, W) := by
      unfold f_Math_max_II
      by_cases c2 : W (z + 6) q < W (z + 6) p + 1
      · rw [if_pos c2, if_pos c2]
      · rw [if_neg c2, if_neg c2]
    refine Tr_bq hmax ?_
    generalize (if W (z + 6) q < W (z + 6) p + 1 then W (z + 6) p + 1 else W (z + 6) q) = y at *
    refine Tr_set (fun V1 v1 n1 => ?_)
    rw [FV_4 hv, AV2 hv, gd_in hq0 hq1, n1 (z + 2) (by omega), w32_id (x := W (z + 2) q - 1) (by omega) (by omega)]
    refine Tr_set (fun V2 v2 n2 => ?_)
    have r6 : V2 (z + 6) = upI (W (z + 6)) q y := by rw [n2 _ (by omega), v1]
    have r2 : V2 (z + 2) = upI (W (z + 2)) q (W (z + 2) q - 1) := by rw [v2, n1 _ (by omega)]
    have r5 : V2 (z + 5) = W (z + 5) := by rw [n2 _ (by omega), n1 _ (by omega)]
    have rv : V2 v = W v := by rw [n2 v (by omega), n1 v (by omega)]
    have f2 : frK v z V V2 := ⟨fun a b1 b2 b3 b4 => by rw [n2 a b2, n1 a b4, fW.1 a b1 b2 b3 b4], fun k hk => by rw [rv, fW.2 k hk]⟩
    rw [r2, upI_s, w32_id (x := V (z + 3) p + (k : Int) + 1) (by omega) (by omega), show V (z + 3) p + (k : Int) + 1 = V (z + 3) p + ((k + 1 : Nat) : Int) by omega]
    refine Tr_if (fun d => ?_) (fun d => ?_)
    · have hcap := KQ_199 hB.1 (fun q hq => ⟨hq.1, hq.2.1⟩) hq e1'
      refine Tr_bnd (V_enqueue hv (by rw [rv]; exact hB.1.1) (by rw [rv]; exact hcap) q) ?_
      rintro r U ⟨u1, u2, u3⟩
      have := e5' d
      rw [hsum] at this
      have hne : h ≠ W v 8 := by omega
      refine ih (k + 1) U (by omega) (by omega) ⟨fun a b1 b2 b3 b4 => by rw [u3 a b1 b3, f2.1 a b1 b2 b3 b4], fun k hk => by rw [u2, upI_n _ _ hk, f2.2 k hk]⟩ (by rw [u2, upI_s, rv]; omega) (by rw [u1, rv, upI_n _ _ hne, r5]; exact hQh) ?_
      rw [u1, u2, rv, r5, upI_s (W v), u3 (z + 6) (by omega) (by omega), r6, u3 (z + 2) (by omega) (by omega), r2]
      exact this
    · have := e4' d
      rw [hsum] at this
      refine ih (k + 1) V2 (by omega) (by omega) f2 (by rw [rv]; exact hlt) (by rw [r5]; exact hQh) ?_
      rw [r6, r2, r5, rv]; exact this
theorem lo_L86 {G : GM} {s : SL} {v m z : Int} {V : ASt} (hG : GOK G) (hs : SOK G s) (hv : isVl v m z) (hL : LDC G s m V (V m 1)) (hF : FS G s m z V) (h0 : 0 < V m 1) (hR : RP G s m V) :
    ∀ (f : Nat) (h : Int) (pr : Int → Int) (W : ASt), 200 - h < f → frK v z V W → KI (nx G s) (lP m V) (W (z + 6)) (W (z + 2)) (W (z + 5)) (W v 8) h pr 0 (fun _ => 0) →
      Tr (b_Values_longestFrom_L86 S0 v (V (m + 1) 0) f W h) (fun y U => frK v z V U ∧ y = vL G s (V (m + 1) 0)) := by
  have hvv := hv
  unfold isVl at hvv
  have hm := isVl_m hv
  have hcl := LDC_cl hG hL
  have hst := LDC_in hG hL (i := 0) (by omega) h0
  intro f
  induction f with
  | zero => intro h pr W h1 h2 h3; have := pigeonI (f := W (z + 5)) h3.1.1 (show (0 : Int) ≤ 200 by decide) (fun i a b => ⟨(h3.1.2.1 i a b).1, (h3.1.2.1 i a b).2.1⟩) h3.1.2.2; have := h3.2.1; omega
  | succ f ih =>
    intro h pr W hf fW hB
    have h200 := pigeonI (f := W (z + 5)) hB.1.1 (show (0 : Int) ≤ 200 by decide) (fun i a b => ⟨(hB.1.2.1 i a b).1, (hB.1.2.1 i a b).2.1⟩) hB.1.2.2
    have hh := hB.2.1
    have hend : W v 8 ≤ h → Tr (b_Values_longestFrom_J117 S0 W v (V (m + 1) 0)) (fun y U => frK v z V U ∧ y = vL G s (V (m + 1) 0)) := by
      intro hle
      have e : h = W v 8 := by omega
      rw [e] at hB
      have hLG := KI_end hcl hB
      have hval := vL_e hcl hLG hst
      dsimp only at hval
      unfold b_Values_longestFrom_J117 b_Values_longestFrom_J147
      rw [FV_1 hv, gd_t (OM hm), fW.1 m (by omega) (by omega) (by omega) (by omega)]
      -- all known if the first is
      have hall : W (z + 2) (V (m + 1) 0) = 0 → ∀ n : Nat, ∀ i, 0 ≤ i → i < V m 1 → i < n → W (z + 2) (V (m + 1) i) = 0 := by
        intro hs0 n
        induction n with
        | zero => intro i a b c; omega
        | succ n ihn =>
          intro i i0 i1 i2
          by_cases c : i = 0
          · rw [c]; exact hs0
          · obtain ⟨j, j0, j1, j2⟩ := hR i (by omega) i1
            have hj := ihn j j0 (by omega) (by omega)
            have dj := LDC_in hG hL j0 (by omega)
            have di := LDC_in hG hL i0 i1
            rcases hLG _ dj with q | q
            · rw [if_pos hj] at q
              have := (hB.2.2.2.2.2.2.1 _ dj).1
              omega
            · have := (q.2.1 _ j2).1 di.1
              refine Classical.byContradiction fun hne => ?_
              rw [if_neg hne] at this
              omega
      refine Tr_if (fun c => ?_) (fun c => ?_)
      · rw [if_neg (by have := hst.1; omega), if_neg (by have := hst.2.1; omega), if_neg (by decide), FV_9 hv, AV6 hv, gd_in hst.1 hst.2.1]
        refine Tr_ret ⟨fW, ?_⟩
        have hin : W (z + 2) (V (m + 1) 0) = 0 := by
          refine (hB.2.2.2.2.2.1 _ hst).mpr (Classical.byContradiction fun hno => ?_)
          have hx := pigeonX (m := V m 1) (n := W v 8) (p := 0) (f := fun i => Classical.epsilon fun k => 0 ≤ k ∧ k < V m 1 ∧ V (m + 1) k = W (z + 5) i) hB.1.1 ⟨by omega, h0⟩ (fun i a b => ?_) (fun i j a b a' b' e => ?_) (fun i a b e => ?_)
          · omega
          · have := Classical.epsilon_spec (LDC_at hG hL (hB.1.2.1 i a b)).2.2.2
            exact ⟨this.1, this.2.1⟩
          · have q1 := (Classical.epsilon_spec (LDC_at hG hL (hB.1.2.1 i a b)).2.2.2).2.2
            have q2 := (Classical.epsilon_spec (LDC_at hG hL (hB.1.2.1 j a' b')).2.2.2).2.2
            have e' : Classical.epsilon (fun k => 0 ≤ k ∧ k < V m 1 ∧ V (m + 1) k = W (z + 5) i) = Classical.epsilon (fun k => 0 ≤ k ∧ k < V m 1 ∧ V (m + 1) k = W (z + 5) j) := e
            rw [e'] at q1
            exact hB.1.2.2 i j a b a' b' (by rw [← q1, ← q2])
          · have q1 := (Classical.epsilon_spec (LDC_at hG hL (hB.1.2.1 i a b)).2.2.2).2.2
            have e' : Classical.epsilon (fun k => 0 ≤ k ∧ k < V m 1 ∧ V (m + 1) k = W (z + 5) i) = 0 := e
            rw [e'] at q1
            exact hno ⟨i, a, b, q1.symm⟩
        rw [if_pos hin] at hval
        exact hval
      · refine Tr_t rfl (Tr_ret ⟨fW, ?_⟩)
        have hnot : W (z + 2) (V (m + 1) 0) ≠ 0 := by
          intro hs0
          have hA := fun i a b => hall hs0 (i.toNat + 1) i a b (by omega)
          have hge := pigeonI (m := W v 8) (n := V m 1) (f := fun i => Classical.epsilon fun k => 0 ≤ k ∧ k < W v 8 ∧ W (z + 5) k = V (m + 1) i) hL.1.1 hB.1.1 (fun i a b => ?_) (fun i j a b a' b' e => ?_)
          · have hle2 := pigeonI (m := V m 1) (n := W v 8) (f := fun i => Classical.epsilon fun k => 0 ≤ k ∧ k < V m 1 ∧ V (m + 1) k = W (z + 5) i) hB.1.1 hL.1.1 (fun i a b => ?_) (fun i j a b a' b' e => ?_)
            · omega
            · have := Classical.epsilon_spec (LDC_at hG hL (hB.1.2.1 i a b)).2.2.2
              exact ⟨this.1, this.2.1⟩
            · have q1 := (Classical.epsilon_spec (LDC_at hG hL (hB.1.2.1 i a b)).2.2.2).2.2
              have q2 := (Classical.epsilon_spec (LDC_at hG hL (hB.1.2.1 j a' b')).2.2.2).2.2
              have e' : Classical.epsilon (fun k => 0 ≤ k ∧ k < V m 1 ∧ V (m + 1) k = W (z + 5) i) = Classical.epsilon (fun k => 0 ≤ k ∧ k < V m 1 ∧ V (m + 1) k = W (z + 5) j) := e
              rw [e'] at q1
              exact hB.1.2.2 i j a b a' b' (by rw [← q1, ← q2])
          · have := Classical.epsilon_spec ((hB.2.2.2.2.2.1 _ (LDC_in hG hL a b)).mp (hA i a b))
            exact ⟨this.1, this.2.1⟩
          · have q1 := (Classical.epsilon_spec ((hB.2.2.2.2.2.1 _ (LDC_in hG hL a b)).mp (hA i a b))).2.2
            have q2 := (Classical.epsilon_spec ((hB.2.2.2.2.2.1 _ (LDC_in hG hL a' b')).mp (hA j a' b'))).2.2
            have e' : Classical.epsilon (fun k => 0 ≤ k ∧ k < W v 8 ∧ W (z + 5) k = V (m + 1) i) = Classical.epsilon (fun k => 0 ≤ k ∧ k < W v 8 ∧ W (z + 5) k = V (m + 1) j) := e
            rw [e'] at q1
            exact hL.1.2.2.2.1 i j a b a' b' (by rw [← q1, ← q2])
        rw [if_neg hnot] at hval
        exact hval
    rw [b_Values_longestFrom_L86]
    refine Tr_if (fun c => hend c) (fun c => ?_)
    have hp := hB.1.2.1 h hh.1 (by omega)
    rw [if_neg (by omega), FV_7 hv, AV5 hv, gd_in (by omega) (by omega)]
    unfold f_Values_lengthenSourcesOf
    have hp0 := hp.1
    have hp1 := hp.2.1
    have c3 : W (z + 3) = V (z + 3) := fW.1 _ (by omega) (by omega) (by omega) (by omega)
    rw [gd_t (OV hv), FV_5 hv, AV3 hv, gd_in (by omega) (by omega), c3]
    obtain ⟨s1, s2, s3, s4, s5⟩ := hF _ hp0 hp1
    have hB' : KI (nx G s) (lP m V) (W (z + 6)) (W (z + 2)) (W (z + 5)) (W v 8) h pr (W (z + 5) h) (fun q => cI (V (z + 4)) q (V (z + 3) (W (z + 5) h)) 0) := by
      obtain ⟨b1, b2, b4, b5, b6, b8, b7, b9⟩ := hB
      have hcv : ∀ (e p' : Int), (pr e = 1 ∨ (e = p' ∧ (0 : Int) < 0)) → pr e = 1 := fun e p' q => q.elim id (fun w => absurd w.2 (by decide))
      refine ⟨b1, b2, b4, b5, b6, b8, fun q d => ?_, b9⟩
      obtain ⟨x0, x1, x2, x3⟩ := b7 q d
      refine ⟨x0, x1, x2, fun hm' => ?_⟩
      obtain ⟨y1, y2, y3⟩ := x3 hm'
      refine ⟨y1, fun e he e0 zz => y2 e he e0 (Or.inl (hcv e _ zz)), ?_⟩
      rcases y3 with y3 | ⟨e, e1, e2, e3, e4⟩
      · exact Or.inl y3
      · exact Or.inr ⟨e, e1, e2, Or.inl (hcv e _ e3), e4⟩
    have hl := le_L7 hG hs hv hL hF (h := h) (pr := pr) hp (by omega) FU 0 W (by omega) (by rw [FU_v]; omega) fW (by omega) rfl hB'
    rw [show V (z + 3) (W (z + 5) h) + ((0 : Nat) : Int) = V (z + 3) (W (z + 5) h) by omega] at hl
    refine Tr_bnd hl ?_
    rintro r U ⟨u1, u2, u3, u5⟩
    rw [w32_id (x := h + 1) (by omega) (by omega)]
    refine ih (h + 1) _ U (by omega) u1 (KI_next u5 u2 u3 hp0 (fun q d => s5 q d) 0)
