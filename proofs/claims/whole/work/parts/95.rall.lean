/-! the reference's game() -/
theorem isW_any (V : ASt) (x : Int) : ∃ r, f_M_isWord S0 V 142 x = some (r, V) := by
  unfold f_M_isWord
  rw [gd_t O_142]
  by_cases c : V 142 3 = 1
  · rw [if_pos c]
    by_cases d : cmp64 (V 142 7) x = 0
    · rw [if_pos d]; exact ⟨_, rfl⟩
    · rw [if_neg d]; exact ⟨_, rfl⟩
  · rw [if_neg c]; exact ⟨_, rfl⟩
theorem gB_0 {b v : Int} {V : ASt} (h4 : V 144 b = v) (h5 : V 145 b = 0) (h9 : V 149 b = 0) (h0 : V 150 b = 0) (h29 : V 142 29 = 0) : gmB b (v, [], 0, []) V := by
  refine ⟨h4, ⟨h5, by show 0 ≤ 2; decide, fun i hi => absurd hi (Nat.not_lt_zero i)⟩, fun i hi => absurd hi (Nat.not_lt_zero i), h9, h0, fun i hi => absurd hi (Nat.not_lt_zero i), h29, fun i hi => absurd hi (Nat.not_lt_zero i)⟩
theorem R_board {T : Int → Int} {n N b : Int} {V : ASt} (hb : b = 0 ∨ b = 1) (hL : lstK T n N) (hX : LX T n V) (h30 : V 142 30 = b) (hr : rKt T n 0 V) (z5 : V 145 b = 0) (z9 : V 149 b = 0) (z0 : V 150 b = 0) (z29 : V 142 29 = 0) :
    Tr (f_M_board S0 V 142) (fun _ U => fB b V U ∧ SR T n N b (bdS (tkK T n)) U) := by
  have hN0 := hL.1
  unfold f_M_board
  rw [gd_t O_142]
  by_cases h8 : V 142 8 = 0
  · refine Tr_bq (K_word hr h8 0 422775452260 256 (by decide) (by decide) (by decide)) ?_
    by_cases c : (tkK T n).1 0 = 256
    · rw [if_pos c]
      have hkN : 0 < N := K_lt hL hN0 (by omega) (by omega)
      have hR : bdS (tkK T n) = nmb (tkK T n) 2 9 (0 + 1) (fun k2 v => tkw (tkK T n) 59 k2 (fun k3 => Sum.inr (k3, (v, [], 0, [])))) := by
        unfold bdS tkw
        rw [if_pos c]
      refine Tr_f (by decide) ?_
      unfold b_M_board_J19
      refine Tr_t (by omega) (Tr_bnd (M_next hX hL ⟨Int.le_refl _, hkN⟩ hr h8) ?_)
      rintro _ U ⟨u1, u2⟩
      have U30 : U 142 30 = b := by rw [u1.2 30 (by omega)]; exact h30
      have S1 : St T n N True (0 + 1) (bdS (tkK T n)) (nmb (tkK T n) 2 9 (0 + 1) (fun k2 v => tkw (tkK T n) 59 k2 (fun k3 => Sum.inr (k3, (v, [], 0, []))))) U := Or.inl ⟨trivial, ⟨by omega, by omega⟩, u2, hR⟩
      refine Tr_bnd (D_num hL (LX_A hX u1) S1) ?_
      rintro v W ⟨w1, w2⟩
      rw [U30, F_142_13, A_144, gd_in (by omega) (by omega)]
      refine Tr_set (fun X eX nX => ?_)
      have gX : fB b V X := fB_tr (fB_A u1) (fB_tr (fB_A w1) (fB_s (by decide) (by unfold oB; omega) eX nX))
      have SX := St_k (U := X) w2 (fun j _ _ => by rw [nX 142 (by decide)])
      have q5 : X 145 b = 0 := by rw [nX 145 (by decide), w1.1 145 (by decide), u1.1 145 (by decide)]; exact z5
      have q9 : X 149 b = 0 := by rw [nX 149 (by decide), w1.1 149 (by decide), u1.1 149 (by decide)]; exact z9
      have q0 : X 150 b = 0 := by rw [nX 150 (by decide), w1.1 150 (by decide), u1.1 150 (by decide)]; exact z0
      have q29 : X 142 29 = 0 := by rw [nX 142 (by decide), w1.2 29 (by omega), u1.2 29 (by omega)]; exact z29
      have BX : gmB b (v, [], 0, []) X := gB_0 (by rw [eX, upI_s]) q5 q9 q0 q29
      refine Tr_if (fun d => ?_) (fun d => ?_)
      · refine Tr_bnd (R_mustS hL (LX_B hX gX) d SX) ?_
        rintro _ Y ⟨y1, y2⟩
        refine Tr_ret ⟨fB_tr gX (fB_A y1), ?_⟩
        rcases y2 with ⟨-, q1, q2, q3⟩ | q
        · exact Or.inl ⟨_, _, q3, q1, q2, fun _ => gB_A BX y1⟩
        · exact Or.inr q
      · refine Tr_ret ⟨gX, Or.inr ?_⟩
        rcases St_n SX (tkw_b (by decide)) with ⟨z, -⟩ | ⟨-, z⟩
        · exact absurd z d
        · exact z
    · rw [if_neg c]
      refine Tr_t rfl (Tr_bnd (M_blame V 1 (V 142 4)) ?_)
      rintro _ U ⟨u1, -, u3, -⟩
      have u3' := u3 (by omega)
      unfold b_M_board_J19
      refine Tr_f (by omega) (Tr_ret ⟨fB_A u1, Or.inr ⟨1, (tkK T n).2.1 0, ?_, by decide, u3'.1, by rw [u3'.2]; exact (rKt_K hr h8).2.1⟩⟩)
      unfold bdS tkw
      rw [if_neg c]
  · obtain ⟨q1, q2, q3⟩ := rKt_h hr h8
    have hR : bdS (tkK T n) = Sum.inl (1, (tkK T n).2.1 0) := tkw_b (by decide) (kH_1 q3)
    obtain ⟨r, er⟩ := isW_any V 422775452260
    refine Tr_bq er (Tr_if (fun c => ?_) (fun c => ?_))
    · refine Tr_bnd (M_blame V 1 (V 142 4)) ?_
      rintro _ U ⟨u1, -, -, u4⟩
      have u4' := u4 (by omega)
      unfold b_M_board_J19
      exact Tr_f (by omega) (Tr_ret ⟨fB_A u1, Or.inr ⟨1, _, hR, by decide, by rw [u4'.1]; exact q1, by rw [u4'.2]; exact q2⟩⟩)
    · unfold b_M_board_J19
      exact Tr_f (by omega) (Tr_ret ⟨fB_rfl b V, Or.inr ⟨1, _, hR, by decide, q1, q2⟩⟩)
def gN (x : ST) (k : Int) : Int := if k = 0 ∨ k = 1 ∨ k = 2 ∨ k = 6 ∨ k = 7 ∨ k = 10 ∨ k = 11 ∨ k = 12 ∨ k = 13 then 0 else if k = 8 then -1 else xN x k
def gmY (x : ST) (s : GS) : ST := (gmQ s, toldS (gmQ s), gN x, x.2.2.2)
def xGR (x : ST) (R : PR) : ST :=
  match R with
  | Sum.inl e => xRf (uN (uN (uN x 6 0) 7 e.1) 8 e.2) 1
  | Sum.inr q => xAn (gmY x q.2)
def sGR (R : PR) : Int :=
  match R with
  | Sum.inl _ => -1
  | Sum.inr q => q.1
def xGm (x : ST) : ST := xGR x (gmS (tkK (xT x) (xN x 6)))
def sGm (x : ST) : Int := sGR (gmS (tkK (xT x) (xN x 6)))
theorem gN_0 (x : ST) (s : GS) {k : Int} (h : k = 0 ∨ k = 1 ∨ k = 2 ∨ k = 6 ∨ k = 7 ∨ k = 10 ∨ k = 11 ∨ k = 12 ∨ k = 13) : xN (gmY x s) k = 0 := if_pos h
theorem gN_8 (x : ST) (s : GS) : xN (gmY x s) 8 = -1 := rfl
theorem gN_n (x : ST) (s : GS) {k : Int} (h : ¬ (k = 0 ∨ k = 1 ∨ k = 2 ∨ k = 6 ∨ k = 7 ∨ k = 10 ∨ k = 11 ∨ k = 12 ∨ k = 13)) (h8 : k ≠ 8) : xN (gmY x s) k = xN x k := by
  show gN x k = _
  unfold gN
  rw [if_neg h, if_neg h8]
/-- what is held before the game begins -/
def rB (x : ST) (s : GS) (b : Int) (V : ASt) : Prop := rG (gmQ s) b V ∧ rT (gmQ s) b V ∧ rL (gmQ s) b V ∧ (V 142 59 = xN x 3 ∧ V 142 60 = xN x 4 ∧ V 142 61 = xN x 5 ∧ V 142 1 = 0 ∧ V 142 10 = 0 ∧ V 142 11 = -1 ∧ V 142 80 = xN x 9) ∧ (∀ k, 0 ≤ k → k ≤ 5 → V 166 k = xN x (20 + k)) ∧ (∀ i, 0 ≤ i → i < xN x 9 → V 197 i = xI x i) ∧ (∀ j, 0 ≤ j → j < 480 → (V 186 j = 0 ∨ V 186 j = 1) ∧ (V 187 j = 0 ∨ V 187 j = 1))
theorem R_beg60 {x : ST} {s : GS} {b : Int} {V W : ASt} (hG : GOK (gmQ s)) (h : rB x s b V) (fW : ∀ a, a ≠ 142 → a ≠ 169 → a ≠ 170 → a ≠ 171 → a ≠ 172 → W a = V a) (e142 : W 142 = upI (V 142) 48 0) (hS : rS (gmQ s) (toldS (gmQ s)) W) : Tr (b_M_begins_L60 S0 142 FU W 0) (fun _ U => rI (xAn (gmY x s)) U ∧ frM V U) := by
  obtain ⟨h1, h2, h3, h4, h5, h6, h7⟩ := h
  obtain ⟨m, hm⟩ : ∃ m, FU = m + 1 + 1 + 1 := ⟨99997, rfl⟩
  rw [hm, b_M_begins_L60]
  refine Tr_f (by decide) ?_
  rw [F_142_49, F_142_50, A_173, gd_in (by decide) (by decide)]
  refine Tr_set (fun V1 e1 n1 => ?_)
  rw [A_174, gd_in (by decide) (by decide)]
  refine Tr_set (fun V2 e2 n2 => ?_)
  rw [show w32 (0 + 1) = 1 from w32_id (by decide) (by decide), b_M_begins_L60]
  refine Tr_f (by decide) ?_
  rw [F_142_49, F_142_50, A_173, gd_in (by decide) (by decide)]
  refine Tr_set (fun V3 e3 n3 => ?_)
  rw [A_174, gd_in (by decide) (by decide)]
  refine Tr_set (fun V4 e4 n4 => ?_)
  rw [show w32 (1 + 1) = 2 from w32_id (by decide) (by decide), b_M_begins_L60]
  refine Tr_t (by decide) ?_
  refine Tr_set (fun V5 e5 n5 => ?_)
  refine Tr_set (fun V6 e6 n6 => ?_)
  have c142 : V6 142 = upI (upI (upI (V 142) 48 0) 65 0) 72 0 := by rw [e6, e5, n4 142 (by decide), n3 142 (by decide), n2 142 (by decide), n1 142 (by decide), e142]
  have f6 : ∀ a, a ≠ 142 → a ≠ 173 → a ≠ 174 → V6 a = W a := fun a a1 a2 a3 => by rw [n6 a a1, n5 a a1, n4 a a3, n3 a a2, n2 a a3, n1 a a2]
  have g6 : ∀ a, a ≠ 142 → a ≠ 173 → a ≠ 174 → a ≠ 169 → a ≠ 170 → a ≠ 171 → a ≠ 172 → V6 a = V a := fun a a1 a2 a3 a4 a5 a6 a7 => by rw [f6 a a1 a2 a3, fW a a1 a4 a5 a6 a7]
  have k142 : ∀ k, k ≠ 48 → k ≠ 65 → k ≠ 72 → V6 142 k = V 142 k := fun k k1 k2 k3 => by rw [c142, upI_n _ _ k3, upI_n _ _ k2, upI_n _ _ k1]
  have c173 : V6 173 = upI (upI (V 173) 0 0) 1 0 := by rw [n6 173 (by decide), n5 173 (by decide), n4 173 (by decide), e3, n2 173 (by decide), e1, fW 173 (by decide) (by decide) (by decide) (by decide) (by decide)]
  have c174 : V6 174 = upI (upI (V 174) 0 0) 1 0 := by rw [n6 174 (by decide), n5 174 (by decide), e4, n3 174 (by decide), e2, n1 174 (by decide), fW 174 (by decide) (by decide) (by decide) (by decide) (by decide)]
  have hI : rI (gmY x s) V6 := by
    refine ⟨b, rG_fr2 (k142 12 (by decide) (by decide) (by decide)) (fun a a1 a2 => g6 a (by omega) (by omega) (by omega) (by omega) (by omega) (by omega) (by omega)) h1, rT_fr (fun a a1 a2 => g6 a (by omega) (by omega) (by omega) (by omega) (by omega) (by omega) (by omega)) h2, ?_, rS_fr (fun a a1 a2 => f6 a (by omega) (by omega) (by omega)) hS, ?_, ?_, fun k k0 k1 => ?_, fun i i0 i1 => ?_, fun i i0 i1 => ?_, fun i i0 i1 => ?_, fun e => ?_, fun j j0 j1 => ?_⟩
    · show rL (gmQ s) b V6
      unfold rL at *
      rw [g6 146 (by decide) (by decide) (by decide) (by decide) (by decide) (by decide) (by decide)]; exact h3
    · rw [gN_0 x s (k := 0) (by omega), gN_0 x s (k := 1) (by omega), gN_0 x s (k := 2) (by omega), gN_0 x s (k := 6) (by omega), gN_0 x s (k := 7) (by omega), gN_8, gN_n x s (k := 3) (by decide) (by decide), gN_n x s (k := 4) (by decide) (by decide), gN_n x s (k := 5) (by decide) (by decide), gN_n x s (k := 9) (by decide) (by decide)]
      rw [k142 59 (by decide) (by decide) (by decide), k142 60 (by decide) (by decide) (by decide), k142 61 (by decide) (by decide) (by decide), k142 1 (by decide) (by decide) (by decide), k142 10 (by decide) (by decide) (by decide), k142 11 (by decide) (by decide) (by decide), k142 80 (by decide) (by decide) (by decide)]
      refine ⟨?_, ?_, ?_, h4.1, h4.2.1, h4.2.2.1, h4.2.2.2.1, h4.2.2.2.2.1, h4.2.2.2.2.2.1, h4.2.2.2.2.2.2⟩
      · rw [c142, upI_n _ _ (by decide), upI_n _ _ (by decide), upI_s]
      · rw [c142, upI_n _ _ (by decide), upI_s]
      · rw [c142, upI_s]
    · rw [gN_0 x s (k := 10) (by omega), gN_0 x s (k := 11) (by omega), gN_0 x s (k := 12) (by omega), gN_0 x s (k := 13) (by omega), c173, c174]
      refine ⟨?_, ?_, ?_, ?_⟩
      · rw [upI_n _ _ (by decide), upI_s]
      · rw [upI_s]
      · rw [upI_n _ _ (by decide), upI_s]
      · rw [upI_s]
    · rw [gN_n x s (by omega) (by omega), g6 166 (by decide) (by decide) (by decide) (by decide) (by decide) (by decide) (by decide)]; exact h5 k k0 k1
    · rw [gN_0 x s (k := 6) (by omega)] at i1; omega
    · rw [gN_n x s (k := 9) (by decide) (by decide)] at i1
      rw [g6 197 (by decide) (by decide) (by decide) (by decide) (by decide) (by decide) (by decide)]; exact h6 i i0 i1
    · rw [gN_0 x s (k := 1) (by omega)] at i1; omega
    · rw [gN_0 x s (k := 2) (by omega)] at e; omega
    · rw [g6 186 (by decide) (by decide) (by decide) (by decide) (by decide) (by decide) (by decide), g6 187 (by decide) (by decide) (by decide) (by decide) (by decide) (by decide) (by decide)]; exact h7 j j0 j1
  refine Tr_bnd (R_anews (x := gmY x s) hG hI (by rw [gN_0 x s (by omega)]; exact Int.le_refl 0) (fun _ => gN_0 x s (by omega))) ?_
  rintro _ U ⟨-, u1, u2⟩
  exact Tr_ret ⟨u1, fun a ha => by rw [u2 a ha, g6 a (by omega) (by omega) (by omega) (by omega) (by omega) (by omega) (by omega)]⟩
theorem R_begins {x : ST} {s : GS} {b : Int} {V : ASt} (hG : GOK (gmQ s)) (h : rB x s b V) : Tr (f_M_begins S0 V 142) (fun _ U => rI (xAn (gmY x s)) U ∧ frM V U) := by
  have hR := hG.2.2.1
  have hb := h.1.2.1
  have lp : ∀ (f : Nat) (i : Int) (W : ASt), 0 ≤ i → i ≤ qR (gmQ s) → qR (gmQ s) - i < f → (∀ a, a ≠ 169 → a ≠ 170 → a ≠ 171 → a ≠ 172 → W a = V a) → (∀ p, 0 ≤ p → p < i → W 169 p = sA (toldS (gmQ s)) p ∧ W 170 p = sX (toldS (gmQ s)) p ∧ W 171 p = sT (toldS (gmQ s)) p ∧ W 172 p = sN (toldS (gmQ s)) p) → Tr (b_M_begins_L2 S0 142 f W i) (fun _ U => rI (xAn (gmY x s)) U ∧ frM V U) := by
    intro f
    induction f with
    | zero => intro i W i0 i1 hf; omega
    | succ f ih =>
      intro i W i0 i1 hf fW hW
      have gW : rG (gmQ s) b W := rG_fr (fun a a1 a2 => fW a (by omega) (by omega) (by omega) (by omega)) h.1
      rw [b_M_begins_L2]
      refine Tr_bq (M_rulesAll gW) (Tr_if (fun c => ?_) (fun c => ?_))
      · have : i = qR (gmQ s) := by omega
        subst this
        refine Tr_set (fun X eX nX => ?_)
        refine R_beg60 hG h (fun a a1 a2 a3 a4 a5 => by rw [nX a a1, fW a a2 a3 a4 a5]) (by rw [eX, fW 142 (by decide) (by decide) (by decide) (by decide)]) (fun p p0 p1 => ?_)
        rw [nX 169 (by decide), nX 170 (by decide), nX 171 (by decide), nX 172 (by decide)]
        exact hW p p0 p1
      · rw [F_142_44, F_142_45, F_142_46, F_142_47, F_142_23, A_169, gd_in (by omega) (by omega)]
        refine Tr_set (fun V1 e1 n1 => ?_)
        rw [A_170, gd_in (by omega) (by omega)]
        refine Tr_set (fun V2 e2 n2 => ?_)
        rw [A_171, gd_in (by omega) (by omega)]
        refine Tr_set (fun V3 e3 n3 => ?_)
        have f3 : ∀ a, a ≠ 169 → a ≠ 170 → a ≠ 171 → V3 a = W a := fun a a1 a2 a3 => by rw [n3 a a3, n2 a a2, n1 a a1]
        have g3 : rG (gmQ s) b V3 := rG_fr (fun a a1 a2 => f3 a (by omega) (by omega) (by omega)) gW
        refine Tr_bq (M_told g3 i0 (by omega)) ?_
        rw [A_154, gd_in (by omega) (by omega), A_172, gd_in (by omega) (by omega), (g3.2.2.2.2.2.2.2 i i0 (by omega)).2.2.2.1]
        refine Tr_set (fun V4 e4 n4 => ?_)
        rw [w32_id (by omega) (by omega)]
        refine ih (i + 1) V4 (by omega) (by omega) (by omega) (fun a a1 a2 a3 a4 => by rw [n4 a a4, f3 a a1 a2 a3, fW a a1 a2 a3 a4]) (fun p p0 p1 => ?_)
        have d9 : V4 169 = upI (W 169) i i := by rw [n4 169 (by decide), n3 169 (by decide), n2 169 (by decide), e1]
        have d0 : V4 170 = upI (W 170) i 0 := by rw [n4 170 (by decide), n3 170 (by decide), e2, n1 170 (by decide)]
        have d1 : V4 171 = upI (W 171) i 0 := by rw [n4 171 (by decide), e3, n2 171 (by decide), n1 171 (by decide)]
        have d2 : V4 172 = upI (W 172) i (qN (gmQ s) i) := by rw [e4, n3 172 (by decide), n2 172 (by decide), n1 172 (by decide)]
        rw [d9, d0, d1, d2]
        by_cases z : p = i
        · rw [z, upI_s, upI_s, upI_s, upI_s, toldS_A i0 (by omega), toldS_N i0 (by omega)]
          exact ⟨rfl, rfl, rfl, rfl⟩
        · rw [upI_n _ _ z, upI_n _ _ z, upI_n _ _ z, upI_n _ _ z]
          exact hW p p0 (by omega)
  unfold f_M_begins
  rw [gd_t O_142]
  exact lp FU 0 V (by omega) (by omega) (by rw [FU_v]; omega) (fun _ _ _ _ _ => rfl) (fun p a b => by omega)
