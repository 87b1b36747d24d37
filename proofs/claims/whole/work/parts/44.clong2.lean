/-! the longest row: the class's, by the machine -/
def frK (v z : Int) (V U : ASt) : Prop := (∀ a, a ≠ v → a ≠ z + 2 → a ≠ z + 5 → a ≠ z + 6 → U a = V a) ∧ (∀ k, k ≠ 8 → U v k = V v k)
theorem V_enqueue {v m z : Int} {W : ASt} (hv : isVl v m z) (h0 : 0 ≤ W v 8) (h1 : W v 8 < 200) (q : Int) :
    Tr (f_Values_enqueue S0 W v q) (fun _ U => U (z + 5) = upI (W (z + 5)) (W v 8) q ∧ U v = upI (W v) 8 (W v 8 + 1) ∧ ∀ a, a ≠ v → a ≠ z + 5 → U a = W a) := by
  have hvv := hv
  unfold isVl at hvv
  unfold f_Values_enqueue
  rw [gd_t (OV hv), if_neg (by omega), FV_7 hv, AV5 hv, gd_in (by omega) (by omega)]
  refine Tr_set (fun V3 e3 n3 => ?_)
  rw [n3 v (by omega), w32_id (by omega) (by omega)]
  refine Tr_set (fun V4 e4 n4 => Tr_ret ⟨by rw [n4 _ (by omega), e3], by rw [e4, n3 v (by omega)], fun a a1 a2 => by rw [n4 a a1, n3 a a2]⟩)
theorem KQ_199 {D : Int → Prop} {Q : Int → Int} {n q : Int} (h : KQ D Q n) (hD : ∀ q, D q → 0 ≤ q ∧ q < 200) (hq : D q) (h0 : ∀ i, 0 ≤ i → i < n → Q i ≠ q) : n < 200 :=
  pigeonX (f := Q) (p := q) h.1 (hD q hq) (fun i a b => hD _ (h.2.1 i a b)) h.2.2 (fun i a b e => h0 i a b e)
theorem le_L7 {G : GM} {s : SL} {v m z : Int} {V : ASt} (hG : GOK G) (hs : SOK G s) (hv : isVl v m z) (hL : LDC G s m V (V m 1)) (hF : FS G s m z V) {h : Int} {pr : Int → Int} {p : Int} (hp : lP m V p) (hh200 : h < 200) :
    ∀ (f k : Nat) (W : ASt), (k : Int) ≤ V (z + 3) (p + 1) - V (z + 3) p → V (z + 3) (p + 1) - V (z + 3) p - k < f → frK v z V W → h < W v 8 → W (z + 5) h = p → KI (nx G s) (lP m V) (W (z + 6)) (W (z + 2)) (W (z + 5)) (W v 8) h pr p (fun q => cI (V (z + 4)) q (V (z + 3) p) k) →
      Tr (b_Values_lengthenSourcesOf_L7 S0 v p f W (V (z + 3) p + k)) (fun _ U => frK v z V U ∧ h < U v 8 ∧ U (z + 5) h = p ∧ KI (nx G s) (lP m V) (U (z + 6)) (U (z + 2)) (U (z + 5)) (U v 8) h pr p (fun q => cI (V (z + 4)) q (V (z + 3) p) (V (z + 3) (p + 1) - V (z + 3) p).toNat)) := by
  have hvv := hv
  unfold isVl at hvv
  have hm := isVl_m hv
  have hcl := LDC_cl hG hL
  obtain ⟨s1, s2, s3, s4, s5⟩ := hF p hp.1 hp.2.1
  have hp0 := hp.1
  have hp1 := hp.2.1
  intro f
  induction f with
  | zero => intro k W h1 h2; omega
  | succ f ih =>
    intro k W hk hf fW hlt hQh hB
    have c3 : W (z + 3) = V (z + 3) := fW.1 _ (by omega) (by omega) (by omega) (by omega)
    have c4 : W (z + 4) = V (z + 4) := fW.1 _ (by omega) (by omega) (by omega) (by omega)
    rw [b_Values_lengthenSourcesOf_L7, FV_5 hv, w32_id (x := p + 1) (by omega) (by omega), AV3 hv, gd_in (by omega) (by omega), c3]
    refine Tr_if (fun c => ?_) (fun c => ?_)
    · refine Tr_ret ⟨fW, hlt, hQh, ?_⟩
      rw [show (V (z + 3) (p + 1) - V (z + 3) p).toNat = k by omega]; exact hB
    obtain ⟨hq, hpm⟩ := s4 (V (z + 3) p + k) (by omega) (by omega)
    have hsum := sg_s (V (z + 4)) (V (z + 3) p) k
    have hcnt := s5 _ hq
    have hle := cI_le (V (z + 4)) (V (z + 4) (V (z + 3) p + k)) (V (z + 3) p) (k + 1) ((V (z + 3) (p + 1) - V (z + 3) p).toNat - (k + 1))
    rw [show k + 1 + ((V (z + 3) (p + 1) - V (z + 3) p).toNat - (k + 1)) = (V (z + 3) (p + 1) - V (z + 3) p).toNat by omega, hcnt, cI_snoc, if_pos rfl] at hle
    rw [FV_6 hv, AV4 hv, gd_in (by omega) (by omega), c4]
    have h12 := nx_12 hG hs (V (z + 4) (V (z + 3) p + k))
    have hcn := cn_r p (nx G s (V (z + 4) (V (z + 3) p + k)))
    have hci := cI_0 (V (z + 4)) (V (z + 4) (V (z + 3) p + k)) k (V (z + 3) p)
    generalize V (z + 4) (V (z + 3) p + k) = q at *
    have hq0 := hq.1
    have hq1 := hq.2.1
    have hlf := hB.2.2.2.2.1 q hq
    dsimp only at hlf
    have hrm := rem_r hB.2.2.1 (nx G s q)
    obtain ⟨e1', e2', e3', e4', e5'⟩ := KI_edge hcl hB hq hlt hQh hpm hp0 hle
    have hrq := (hB.2.2.2.2.2.2.1 q hq)
    rw [FV_9 hv, AV6 hv, gd_in hq0 hq1, AV6 hv, gd_in hp0 hp1, w32_id (x := W (z + 6) p + 1) (by omega) (by omega)]
    have hmax : f_Math_max_II S0 W (W (z + 6) q) (W (z + 6) p + 1) = some (if W (z + 6) q < W (z + 6) p + 1 then W (z + 6) p + 1 else W (z + 6) q, W) := by
      unfold f_Math_max_II
      by_cases c2 : W (z + 6) q < W (z + 6) p + 1
      · rw [if_pos c2, if_pos c2]
      · rw [if_neg c2, if_neg c2]
    refine Tr_bq hmax ?_
    generalize (if W (z + 6) q < W (z + 6) p + 1 then W (z + 6) p + 1 else W (z + 6) q) = y at *
    refine Tr_set (fun V1 v1 n1 => ?_)
    rw [FV_4 hv, AV2 hv, gd_in hq0 hq1, n1 (z + 2) (by omega), w32_id (x := W (z + 2) q - 1) (by omega) (by omega)]
    refine Tr_set (fun V2 v2 n2 => ?_)
    have r6 : V2 (z + 6) = upI (W (z + 6)) q y := by rw [n2 _ (by omega), v1]
    have r2 : V2 (z + 2) = upI (W (z + 2)) q (W (z + 2) q - 1) := by rw [v2, n1 _ (by omega)]
    have r5 : V2 (z + 5) = W (z + 5) := by rw [n2 _ (by omega), n1 _ (by omega)]
    have rv : V2 v = W v := by rw [n2 v (by omega), n1 v (by omega)]
    have f2 : frK v z V V2 := ⟨fun a b1 b2 b3 b4 => by rw [n2 a b2, n1 a b4, fW.1 a b1 b2 b3 b4], fun k hk => by rw [rv, fW.2 k hk]⟩
    rw [r2, upI_s, w32_id (x := V (z + 3) p + (k : Int) + 1) (by omega) (by omega), show V (z + 3) p + (k : Int) + 1 = V (z + 3) p + ((k + 1 : Nat) : Int) by omega]
    refine Tr_if (fun d => ?_) (fun d => ?_)
    · have hcap := KQ_199 hB.1 (fun q hq => ⟨hq.1, hq.2.1⟩) hq e1'
      refine Tr_bnd (V_enqueue hv (by rw [rv]; exact hB.1.1) (by rw [rv]; exact hcap) q) ?_
      rintro r U ⟨u1, u2, u3⟩
      have := e5' d
      rw [hsum] at this
      have hne : h ≠ W v 8 := by omega
      refine ih (k + 1) U (by omega) (by omega) ⟨fun a b1 b2 b3 b4 => by rw [u3 a b1 b3, f2.1 a b1 b2 b3 b4], fun k hk => by rw [u2, upI_n _ _ hk, f2.2 k hk]⟩ (by rw [u2, upI_s, rv]; omega) (by rw [u1, rv, upI_n _ _ hne, r5]; exact hQh) ?_
      rw [u1, u2, rv, r5, upI_s (W v), u3 (z + 6) (by omega) (by omega), r6, u3 (z + 2) (by omega) (by omega), r2]
      exact this
    · have := e4' d
      rw [hsum] at this
      refine ih (k + 1) V2 (by omega) (by omega) f2 (by rw [rv]; exact hlt) (by rw [r5]; exact hQh) ?_
      rw [r6, r2, r5, rv]; exact this
theorem lo_L86 {G : GM} {s : SL} {v m z : Int} {V : ASt} (hG : GOK G) (hs : SOK G s) (hv : isVl v m z) (hL : LDC G s m V (V m 1)) (hF : FS G s m z V) (h0 : 0 < V m 1) (hR : RP G s m V) :
    ∀ (f : Nat) (h : Int) (pr : Int → Int) (W : ASt), 200 - h < f → frK v z V W → KI (nx G s) (lP m V) (W (z + 6)) (W (z + 2)) (W (z + 5)) (W v 8) h pr 0 (fun _ => 0) →
      Tr (b_Values_longestFrom_L86 S0 v (V (m + 1) 0) f W h) (fun y U => frK v z V U ∧ y = vL G s (V (m + 1) 0)) := by
  have hvv := hv
  unfold isVl at hvv
  have hm := isVl_m hv
  have hcl := LDC_cl hG hL
  have hst := LDC_in hG hL (i := 0) (by omega) h0
  intro f
  induction f with
  | zero => intro h pr W h1 h2 h3; have := pigeonI (f := W (z + 5)) h3.1.1 (show (0 : Int) ≤ 200 by decide) (fun i a b => ⟨(h3.1.2.1 i a b).1, (h3.1.2.1 i a b).2.1⟩) h3.1.2.2; have := h3.2.1; omega
  | succ f ih =>
    intro h pr W hf fW hB
    have h200 := pigeonI (f := W (z + 5)) hB.1.1 (show (0 : Int) ≤ 200 by decide) (fun i a b => ⟨(hB.1.2.1 i a b).1, (hB.1.2.1 i a b).2.1⟩) hB.1.2.2
    have hh := hB.2.1
    have hend : W v 8 ≤ h → Tr (b_Values_longestFrom_J117 S0 W v (V (m + 1) 0)) (fun y U => frK v z V U ∧ y = vL G s (V (m + 1) 0)) := by
      intro hle
      have e : h = W v 8 := by omega
      rw [e] at hB
      have hLG := KI_end hcl hB
      have hval := vL_e hcl hLG hst
      unfold b_Values_longestFrom_J117 b_Values_longestFrom_J147
      rw [FV_1 hv, gd_t (OM hm), fW.1 m (by omega) (by omega) (by omega) (by omega)]
      -- all known if the first is
      have hall : W (z + 2) (V (m + 1) 0) = 0 → ∀ n : Nat, ∀ i, 0 ≤ i → i < V m 1 → i < n → W (z + 2) (V (m + 1) i) = 0 := by
        intro hs0 n
        induction n with
        | zero => intro i a b c; omega
        | succ n ihn =>
          intro i i0 i1 i2
          by_cases c : i = 0
          · rw [c]; exact hs0
          · obtain ⟨j, j0, j1, j2⟩ := hR i (by omega) i1
            have hj := ihn j j0 (by omega) (by omega)
            have dj := LDC_in hG hL j0 (by omega)
            have di := LDC_in hG hL i0 i1
            rcases hLG _ dj with q | q
            · dsimp only at q
              rw [if_pos hj] at q
              have := (hB.2.2.2.2.2.2.1 _ dj).1
              omega
            · have := (q.2.1 _ j2).1 di.1
              refine Classical.byContradiction fun hne => ?_
              dsimp only at this
              rw [if_neg hne] at this
              omega
      refine Tr_if (fun c => ?_) (fun c => ?_)
      · rw [if_neg (by have := hst.1; omega), if_neg (by have := hst.2.1; omega), if_neg (by decide), FV_9 hv, AV6 hv, gd_in hst.1 hst.2.1]
        refine Tr_ret ⟨fW, ?_⟩
        have hin : W (z + 2) (V (m + 1) 0) = 0 := by
          refine (hB.2.2.2.2.2.1 _ hst).mpr (Classical.byContradiction fun hno => ?_)
          have hx := pigeonX (m := V m 1) (n := W v 8) (p := 0) (f := fun i => Classical.epsilon fun k => 0 ≤ k ∧ k < V m 1 ∧ V (m + 1) k = W (z + 5) i) hB.1.1 ⟨by omega, h0⟩ (fun i a b => ?_) (fun i j a b a' b' e => ?_) (fun i a b e => ?_)
          · omega
          · have := Classical.epsilon_spec (LDC_at hG hL (hB.1.2.1 i a b)).2.2.2
            exact ⟨this.1, this.2.1⟩
          · have q1 := (Classical.epsilon_spec (LDC_at hG hL (hB.1.2.1 i a b)).2.2.2).2.2
            have q2 := (Classical.epsilon_spec (LDC_at hG hL (hB.1.2.1 j a' b')).2.2.2).2.2
            have e' : Classical.epsilon (fun k => 0 ≤ k ∧ k < V m 1 ∧ V (m + 1) k = W (z + 5) i) = Classical.epsilon (fun k => 0 ≤ k ∧ k < V m 1 ∧ V (m + 1) k = W (z + 5) j) := e
            rw [e'] at q1
            exact hB.1.2.2 i j a b a' b' (q1.symm.trans q2)
          · have q1 := (Classical.epsilon_spec (LDC_at hG hL (hB.1.2.1 i a b)).2.2.2).2.2
            have e' : Classical.epsilon (fun k => 0 ≤ k ∧ k < V m 1 ∧ V (m + 1) k = W (z + 5) i) = 0 := e
            rw [e'] at q1
            exact hno ⟨i, a, b, q1.symm⟩
        rw [if_pos hin] at hval
        exact hval
      · refine Tr_t rfl (Tr_ret ⟨fW, ?_⟩)
        have hnot : W (z + 2) (V (m + 1) 0) ≠ 0 := by
          intro hs0
          have hA := fun i a b => hall hs0 (i.toNat + 1) i a b (by omega)
          have hge := pigeonI (m := W v 8) (n := V m 1) (f := fun i => Classical.epsilon fun k => 0 ≤ k ∧ k < W v 8 ∧ W (z + 5) k = V (m + 1) i) hL.1.1 hB.1.1 (fun i a b => ?_) (fun i j a b a' b' e => ?_)
          · have hle2 := pigeonI (m := V m 1) (n := W v 8) (f := fun i => Classical.epsilon fun k => 0 ≤ k ∧ k < V m 1 ∧ V (m + 1) k = W (z + 5) i) hB.1.1 hL.1.1 (fun i a b => ?_) (fun i j a b a' b' e => ?_)
            · omega
            · have := Classical.epsilon_spec (LDC_at hG hL (hB.1.2.1 i a b)).2.2.2
              exact ⟨this.1, this.2.1⟩
            · have q1 := (Classical.epsilon_spec (LDC_at hG hL (hB.1.2.1 i a b)).2.2.2).2.2
              have q2 := (Classical.epsilon_spec (LDC_at hG hL (hB.1.2.1 j a' b')).2.2.2).2.2
              have e' : Classical.epsilon (fun k => 0 ≤ k ∧ k < V m 1 ∧ V (m + 1) k = W (z + 5) i) = Classical.epsilon (fun k => 0 ≤ k ∧ k < V m 1 ∧ V (m + 1) k = W (z + 5) j) := e
              rw [e'] at q1
              exact hB.1.2.2 i j a b a' b' (q1.symm.trans q2)
          · have := Classical.epsilon_spec ((hB.2.2.2.2.2.1 _ (LDC_in hG hL a b)).mp (hA i a b))
            exact ⟨this.1, this.2.1⟩
          · have q1 := (Classical.epsilon_spec ((hB.2.2.2.2.2.1 _ (LDC_in hG hL a b)).mp (hA i a b))).2.2
            have q2 := (Classical.epsilon_spec ((hB.2.2.2.2.2.1 _ (LDC_in hG hL a' b')).mp (hA j a' b'))).2.2
            have e' : Classical.epsilon (fun k => 0 ≤ k ∧ k < W v 8 ∧ W (z + 5) k = V (m + 1) i) = Classical.epsilon (fun k => 0 ≤ k ∧ k < W v 8 ∧ W (z + 5) k = V (m + 1) j) := e
            rw [e'] at q1
            exact hL.1.2.2.2.1 i j a b a' b' (q1.symm.trans q2)
        rw [if_neg hnot] at hval
        exact hval
    rw [b_Values_longestFrom_L86]
    refine Tr_if (fun c => hend c) (fun c => ?_)
    have hp := hB.1.2.1 h hh.1 (by omega)
    rw [if_neg (by omega), FV_7 hv, AV5 hv, gd_in (by omega) (by omega)]
    unfold f_Values_lengthenSourcesOf
    have hp0 := hp.1
    have hp1 := hp.2.1
    have c3 : W (z + 3) = V (z + 3) := fW.1 _ (by omega) (by omega) (by omega) (by omega)
    rw [gd_t (OV hv), FV_5 hv, AV3 hv, gd_in (by omega) (by omega), c3]
    obtain ⟨s1, s2, s3, s4, s5⟩ := hF _ hp0 hp1
    have hB' : KI (nx G s) (lP m V) (W (z + 6)) (W (z + 2)) (W (z + 5)) (W v 8) h pr (W (z + 5) h) (fun q => cI (V (z + 4)) q (V (z + 3) (W (z + 5) h)) 0) := by
      obtain ⟨b1, b2, b4, b5, b6, b8, b7, b9⟩ := hB
      have hcv : ∀ (e p' : Int), (pr e = 1 ∨ (e = p' ∧ (0 : Int) < 0)) → pr e = 1 := fun e p' q => q.elim id (fun w => absurd w.2 (by decide))
      refine ⟨b1, b2, b4, b5, b6, b8, fun q d => ?_, b9⟩
      obtain ⟨x0, x1, x2, x3⟩ := b7 q d
      refine ⟨x0, x1, x2, fun hm' => ?_⟩
      obtain ⟨y1, y2, y3⟩ := x3 hm'
      refine ⟨y1, fun e he e0 zz => y2 e he e0 (Or.inl (hcv e _ zz)), ?_⟩
      rcases y3 with y3 | ⟨e, e1, e2, e3, e4⟩
      · exact Or.inl y3
      · exact Or.inr ⟨e, e1, e2, Or.inl (hcv e _ e3), e4⟩
    have hl := le_L7 hG hs hv hL hF (h := h) (pr := pr) hp (by omega) FU 0 W (by omega) (by rw [FU_v]; omega) fW (by omega) rfl hB'
    rw [show V (z + 3) (W (z + 5) h) + ((0 : Nat) : Int) = V (z + 3) (W (z + 5) h) by omega] at hl
    refine Tr_bnd hl ?_
    rintro r U ⟨u1, u2, u3, u5⟩
    rw [w32_id (x := h + 1) (by omega) (by omega)]
    refine ih (h + 1) _ U (by omega) u1 (KI_next u5 u2 u3 hp0 (fun q d => s5 q d) 0)
def PL (M : Int → List Int) (L rl lf Q : Int → Int) (n x : Int) : Prop := (0 ≤ n ∧ n ≤ x) ∧ (∀ i, 0 ≤ i → i < n → ∃ k, 0 ≤ k ∧ k < x ∧ Q i = L k) ∧ (∀ i j, 0 ≤ i → i < n → 0 ≤ j → j < n → Q i = Q j → i = j) ∧
  (∀ k, 0 ≤ k → k < x → rl (L k) = (if M (L k) = [] then 0 else 1) ∧ lf (L k) = rem (fun _ => 0) (M (L k)) ∧ (lf (L k) = 0 ↔ ∃ i, 0 ≤ i ∧ i < n ∧ Q i = L k))
theorem lo_L11 {G : GM} {s : SL} {v m z : Int} {V : ASt} (hG : GOK G) (hs : SOK G s) (hv : isVl v m z) (hL : LDC G s m V (V m 1)) {st : Int} {Q : Int → ASt → Prop}
    (hK : ∀ W : ASt, frK v z V W → PL (nx G s) (V (m + 1)) (W (z + 6)) (W (z + 2)) (W (z + 5)) (W v 8) (V m 1) → Tr (b_Values_longestFrom_L86 S0 v st FU W 0) Q) :
    ∀ (n : Nat) (x : Int) (W : ASt), 0 ≤ x → x ≤ V m 1 → V m 1 - x < n → frK v z V W → PL (nx G s) (V (m + 1)) (W (z + 6)) (W (z + 2)) (W (z + 5)) (W v 8) x → Tr (b_Values_longestFrom_L11 S0 v st n W x) Q := by
  have hvv := hv
  unfold isVl at hvv
  have hm := isVl_m hv
  have h200 := hL.1.2.1
  intro n
  induction n with
  | zero => intro x W h1 h2; omega
  | succ n ih =>
    intro x W x0 x1 hn fW hA
    have cm : W m = V m := fW.1 m (by omega) (by omega) (by omega) (by omega)
    have cm1 : W (m + 1) = V (m + 1) := fW.1 _ (by omega) (by omega) (by omega) (by omega)
    rw [b_Values_longestFrom_L11, FV_1 hv, gd_t (OM hm), cm]
    refine Tr_if (fun c => ?_) (fun c => ?_)
    · have : x = V m 1 := by omega
      subst this
      exact hK W fW hA
    refine Tr_bq (M_listedAt hm (i := x) x0 (by rw [cm]; omega) (by rw [cm]; exact h200)) ?_
    rw [cm1]
    have hp := LDC_in hG hL x0 (by omega)
    have hat := LDC_at hG hL hp
    have hinj : ∀ k, 0 ≤ k → k < x → V (m + 1) k ≠ V (m + 1) x := fun k k0 k1 e => by have := hL.1.2.2.2.1 k x k0 (by omega) x0 (by omega) e; omega
    have vW : mvH G s m W (V (m + 1) x) := by
      have := hat.2.1
      unfold mvH cdH at *
      rw [fW.1 (m + 3) (by omega) (by omega) (by omega) (by omega), fW.1 (m + 4) (by omega) (by omega) (by omega) (by omega), fW.1 (m + 5) (by omega) (by omega) (by omega) (by omega)]
      exact this
    refine Tr_bq (M_countOf hm ⟨hp.1, hp.2.1⟩ vW) ?_
    obtain ⟨a0, a1, a2, a3⟩ := hA
    have h12 := nx_12 hG hs (V (m + 1) x)
    generalize hq : V (m + 1) x = q at *
    have hne : ∀ i, 0 ≤ i → i < W v 8 → W (z + 5) i ≠ q := fun i i0 i1 e => by
      obtain ⟨k, k0, k1, k2⟩ := a1 i i0 i1
      exact hinj k k0 k1 (by rw [← k2]; exact e)
    have hJ : ∀ y, y = (if nx G s q = [] then (0 : Int) else 1) → Tr (b_Values_longestFrom_J52 S0 (b_Values_longestFrom_L11 S0 v st n) W v st x q (aF S0 v 9) q y) Q := by
      intro y hy
      unfold b_Values_longestFrom_J52
      rw [FV_9 hv, AV6 hv, gd_in hp.1 hp.2.1]
      refine Tr_set (fun V1 e1 n1 => ?_)
      have v1 : mvH G s m V1 q := by
        unfold mvH cdH at *
        rw [n1 (m + 3) (by omega), n1 (m + 4) (by omega), n1 (m + 5) (by omega)]; exact vW
      refine Tr_bq (V_leading hG hs hv ⟨hp.1, hp.2.1⟩ v1) ?_
      rw [FV_4 hv, AV2 hv, gd_in hp.1 hp.2.1]
      refine Tr_set (fun V2 e2 n2 => ?_)
      have r6 : V2 (z + 6) = upI (W (z + 6)) q y := by rw [n2 _ (by omega), e1]
      have r2 : V2 (z + 2) = upI (W (z + 2)) q (rem (fun _ => 0) (nx G s q)) := by rw [e2, n1 _ (by omega)]
      have r5 : V2 (z + 5) = W (z + 5) := by rw [n2 _ (by omega), n1 _ (by omega)]
      have rv : V2 v = W v := by rw [n2 v (by omega), n1 v (by omega)]
      have f2 : frK v z V V2 := ⟨fun a b1 b2 b3 b4 => by rw [n2 a b2, n1 a b4, fW.1 a b1 b2 b3 b4], fun k hk => by rw [rv, fW.2 k hk]⟩
      rw [r2, upI_s, w32_id (x := x + 1) (by omega) (by omega)]
      refine Tr_if (fun d => ?_) (fun d => ?_)
      · refine Tr_bnd (V_enqueue hv (by rw [rv]; omega) (by rw [rv]; omega) q) ?_
        rintro r U ⟨u1, u2, u3⟩
        refine ih (x + 1) U (by omega) (by omega) (by omega) ⟨fun a b1 b2 b3 b4 => by rw [u3 a b1 b3, f2.1 a b1 b2 b3 b4], fun k hk => by rw [u2, upI_n _ _ hk, f2.2 k hk]⟩ ?_
        rw [u1, u2, rv, r5, upI_s (W v), u3 (z + 6) (by omega) (by omega), r6, u3 (z + 2) (by omega) (by omega), r2]
        refine ⟨by omega, fun i i0 i1 => ?_, fun i j i0 i1 j0 j1 e => ?_, fun k k0 k1 => ?_⟩
        · by_cases ci : i = W v 8
          · rw [ci, upI_s]; exact ⟨x, x0, by omega, hq.symm⟩
          · rw [upI_n _ _ ci]
            obtain ⟨k, k0, k1, k2⟩ := a1 i i0 (by omega)
            exact ⟨k, k0, by omega, k2⟩
        · by_cases ci : i = W v 8
          · by_cases cj : j = W v 8
            · omega
            · rw [ci, upI_s, upI_n _ _ cj] at e
              exact absurd e.symm (hne j j0 (by omega))
          · by_cases cj : j = W v 8
            · rw [cj, upI_s, upI_n _ _ ci] at e
              exact absurd e (hne i i0 (by omega))
            · rw [upI_n _ _ ci, upI_n _ _ cj] at e
              exact a2 i j i0 (by omega) j0 (by omega) e
        · by_cases z' : k = x
          · rw [z', hq, upI_s, upI_s]
            exact ⟨hy, rfl, fun _ => ⟨W v 8, a0.1, by omega, upI_s _ _ _⟩, fun _ => d⟩
          · have hk := hinj k k0 (by omega)
            rw [upI_n _ _ hk, upI_n _ _ hk]
            have := a3 k k0 (by omega)
            refine ⟨this.1, this.2.1, fun hz => ?_, fun ⟨i, i0, i1, i2⟩ => ?_⟩
            · obtain ⟨i, i0, i1, i2⟩ := this.2.2.mp hz
              exact ⟨i, i0, by omega, by rw [upI_n _ _ (by omega)]; exact i2⟩
            · by_cases ci : i = W v 8
              · rw [ci, upI_s] at i2; exact absurd i2.symm hk
              · rw [upI_n _ _ ci] at i2
                exact this.2.2.mpr ⟨i, i0, by omega, i2⟩
      · refine ih (x + 1) V2 (by omega) (by omega) (by omega) f2 ?_
        rw [r6, r2, r5, rv]
        refine ⟨by omega, fun i i0 i1 => ?_, a2, fun k k0 k1 => ?_⟩
        · obtain ⟨k, k0, k1, k2⟩ := a1 i i0 i1
          exact ⟨k, k0, by omega, k2⟩
        · by_cases z' : k = x
          · rw [z', hq, upI_s, upI_s]
            exact ⟨hy, rfl, fun z => absurd z d, fun ⟨i, i0, i1, i2⟩ => absurd i2 (hne i i0 i1)⟩
          · have hk := hinj k k0 (by omega)
            rw [upI_n _ _ hk, upI_n _ _ hk]; exact a3 k k0 (by omega)
    refine Tr_if (fun c1 => ?_) (fun c1 => ?_)
    · exact hJ 0 (by rw [if_pos (List.length_eq_zero_iff.mp (by omega))])
    · exact hJ 1 (by rw [if_neg (fun e => by rw [e] at c1; exact c1 (Int.le_refl _))])
theorem V_longestFrom {G : GM} {s : SL} {v m z : Int} {V : ASt} (hG : GOK G) (hs : SOK G s) (hv : isVl v m z) (hL : LDC G s m V (V m 1)) (h0 : 0 < V m 1) (hR : RP G s m V) :
    Tr (f_Values_longestFrom S0 V v (V (m + 1) 0)) (fun y U => y = vL G s (V (m + 1) 0) ∧ (∀ a, a ≠ v → (a < z + 2 ∨ z + 6 < a) → U a = V a) ∧ (∀ k, k ≠ 8 → U v k = V v k)) := by
  have hvv := hv
  unfold isVl at hvv
  have h200 := hL.1.2.1
  unfold f_Values_longestFrom
  rw [gd_t (OV hv)]
  refine Tr_bnd (V_findSources hG hs hv hL) ?_
  rintro r1 V1 ⟨f1, hF⟩
  refine Tr_set (fun V2 e2 n2 => ?_)
  have f2 : ∀ a, a ≠ v → a ≠ z + 3 → a ≠ z + 4 → V2 a = V a := fun a a1 a2 a3 => by rw [n2 a a1, f1 a a2 a3]
  have em : V2 m = V m := f2 m (by omega) (by omega) (by omega)
  have em1 : V2 (m + 1) = V (m + 1) := f2 _ (by omega) (by omega) (by omega)
  have em2 : V2 (m + 2) = V (m + 2) := f2 _ (by omega) (by omega) (by omega)
  have elP : lP m V2 = lP m V := by funext q; unfold lP; rw [em2]
  have L2 : LDC G s m V2 (V2 m 1) := by
    rw [em]
    exact LDC_fr (fun o _ _ => f2 _ (by omega) (by omega) (by omega)) hL
  have F2 : FS G s m z V2 := by
    unfold FS at *
    rw [n2 (z + 3) (by omega), n2 (z + 4) (by omega), elP]
    have : lP m V1 = lP m V := by funext q; unfold lP; rw [f1 (m + 2) (by omega) (by omega)]
    rw [this] at hF
    exact hF
  have v8 : V2 v 8 = 0 := by rw [e2, upI_s]
  refine lo_L11 hG hs hv L2 (fun W fW hP => ?_) FU 0 V2 (by omega) (by rw [em]; omega) (by rw [FU_v, em]; omega) ⟨fun _ _ _ _ _ => rfl, fun _ _ => rfl⟩ ⟨by omega, fun i a b => by omega, fun i j a b => by omega, fun k a b => by omega⟩
  obtain ⟨p0, p1, p2, p3⟩ := hP
  have hD2 : ∀ q, lP m V2 q → ∃ k, 0 ≤ k ∧ k < V2 m 1 ∧ V2 (m + 1) k = q := fun q hq => (LDC_at hG L2 hq).2.2.2
  have hKI : KI (nx G s) (lP m V2) (W (z + 6)) (W (z + 2)) (W (z + 5)) (W v 8) 0 (fun _ => 0) 0 (fun _ => 0) := by
    refine ⟨⟨p0.1, fun i i0 i1 => ?_, p2⟩, ⟨Int.le_refl _, p0.1⟩, fun _ => Or.inl rfl, fun e d => ⟨fun y => absurd (show (0 : Int) = 1 from y) (by decide), fun ⟨i, i0, i1, _⟩ => by omega⟩, fun q d => ?_, fun q d => ?_, fun q d => ?_, fun i i0 i1 => ?_⟩
    · obtain ⟨k, k0, k1, k2⟩ := p1 i i0 i1
      rw [k2]; exact LDC_in hG L2 k0 k1
    · obtain ⟨k, k0, k1, k2⟩ := hD2 q d
      have := (p3 k k0 k1).2.1
      rw [k2] at this
      dsimp only
      omega
    · obtain ⟨k, k0, k1, k2⟩ := hD2 q d
      have := (p3 k k0 k1).2.2
      rw [k2] at this
      exact this
    · obtain ⟨k, k0, k1, k2⟩ := hD2 q d
      have := (p3 k k0 k1).1
      rw [k2] at this
      by_cases hn : nx G s q = []
      · rw [if_pos hn] at this
        exact ⟨by omega, by omega, fun _ => this, fun y => absurd hn y⟩
      · rw [if_neg hn] at this
        refine ⟨by omega, by omega, fun y => absurd y hn, fun _ => ⟨by omega, fun e he e0 y => ?_, Or.inl this⟩⟩
        rcases y with y | y
        · exact absurd (show (0 : Int) = 1 from y) (by decide)
        · exact absurd (show (0 : Int) < 0 from y.2) (by decide)
    · obtain ⟨k, k0, k1, k2⟩ := p1 i i0 i1
      have := (p3 k k0 k1).1
      rw [k2, this]
      by_cases hn : nx G s (V2 (m + 1) k) = []
      · rw [if_pos hn]; omega
      · rw [if_neg hn]; omega
  have hR2 : RP G s m V2 := by unfold RP at *; rw [em, em1]; exact hR
  have := lo_L86 hG hs hv L2 F2 (by rw [em]; exact h0) hR2 FU 0 _ W (by rw [FU_v]; omega) fW hKI
  rw [em1] at this
  refine Tr_mono this ?_
  rintro y U ⟨u1, u2⟩
  exact ⟨u2, fun a a1 a2 => by rw [u1.1 a a1 (by omega) (by omega) (by omega), f2 a a1 (by omega) (by omega)], fun k hk => by rw [u1.2 k hk, e2, upI_n _ _ hk, f1 v (by omega) (by omega)]⟩
