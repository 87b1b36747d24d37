/-! the reference: laying moves out -/
theorem pigeon : ∀ (m n : Nat) (f : Nat → Nat), (∀ i, i < n → f i < m) → (∀ i j, i < n → j < n → f i = f j → i = j) → n ≤ m := by
  intro m
  induction m with
  | zero =>
    intro n f h1 h2
    cases n with
    | zero => exact Nat.le_refl 0
    | succ n => exact absurd (h1 0 (by omega)) (by omega)
  | succ m ih =>
    intro n f h1 h2
    cases n with
    | zero => omega
    | succ n =>
      -- move what stands at n out of the way of m
      have key := ih n (fun i => if f i = m then f n else f i) (by
        intro i hi
        have a := h1 i (by omega)
        have b := h1 n (by omega)
        by_cases e : f i = m
        · simp only [e, if_true]
          have : f n ≠ m := fun e2 => by have := h2 i n (by omega) (by omega) (by omega); omega
          omega
        · simp only [e, if_false]; omega) (by
        intro i j hi hj he
        by_cases e1 : f i = m <;> by_cases e2 : f j = m <;> simp only [e1, e2, if_true, if_false] at he
        · exact h2 i j (by omega) (by omega) (by omega)
        · have := h2 n j (by omega) (by omega) he; omega
        · have := h2 i n (by omega) (by omega) he; omega
        · exact h2 i j (by omega) (by omega) he)
      omega
/-- the same for rows of numbers -/
theorem pigeonI {m n : Int} {f : Int → Int} (hn : 0 ≤ n) (hm : 0 ≤ m) (h1 : ∀ i, 0 ≤ i → i < n → 0 ≤ f i ∧ f i < m) (h2 : ∀ i j, 0 ≤ i → i < n → 0 ≤ j → j < n → f i = f j → i = j) : n ≤ m := by
  have := pigeon m.toNat n.toNat (fun i => (f i).toNat) (by
    intro i hi
    have := h1 i (by omega) (by omega)
    show (f i).toNat < _
    omega) (by
    intro i j hi hj he
    have a := h1 i (by omega) (by omega)
    have b := h1 j (by omega) (by omega)
    have he' : (f i).toNat = (f j).toNat := he
    have := h2 i j (by omega) (by omega) (by omega) (by omega) (by omega)
    omega)
  omega
/-- and one place of the room is not taken -/
theorem pigeonX {m n p : Int} {f : Int → Int} (hn : 0 ≤ n) (hp : 0 ≤ p ∧ p < m) (h1 : ∀ i, 0 ≤ i → i < n → 0 ≤ f i ∧ f i < m) (h2 : ∀ i j, 0 ≤ i → i < n → 0 ≤ j → j < n → f i = f j → i = j) (h3 : ∀ i, 0 ≤ i → i < n → f i ≠ p) : n < m := by
  have := pigeonI (m := m) (n := n + 1) (f := fun i => if i = n then p else f i) (by omega) (by omega) (by
    intro i a b
    by_cases e : i = n
    · simp only [e, if_true]; exact hp
    · simp only [e, if_false]; exact h1 i a (by omega)) (by
    intro i j a b c d he
    by_cases e1 : i = n <;> by_cases e2 : j = n <;> simp only [e1, e2, if_true, if_false] at he
    · omega
    · exact absurd he.symm (h3 j c (by omega))
    · exact absurd he (h3 i a (by omega))
    · exact h2 i j a (by omega) c (by omega) he)
  omega
def cdsT (G : GM) (s : SL) (p : Int) (c : Nat) : List Int := ((List.range c).map (fun n : Nat => (n : Int))).filter (okc G s p)
theorem cdsT_20 (G : GM) (s : SL) (p : Int) : cdsT G s p 20 = cds G s p := rfl
theorem cdsT_s (G : GM) (s : SL) (p : Int) (c : Nat) : cdsT G s p (c + 1) = cdsT G s p c ++ (if okc G s p c = true then [(c : Int)] else []) := by
  unfold cdsT
  rw [List.range_succ, List.map_append, List.filter_append]
  congr 1
  by_cases h : okc G s p c = true
  · rw [if_pos h]; simp [h]
  · rw [if_neg h]; simp [h]
theorem cdsT_le (G : GM) (s : SL) (p : Int) (c : Nat) : (cdsT G s p c).length ≤ c := by
  have := List.length_filter_le (okc G s p) ((List.range c).map (fun n : Nat => (n : Int)))
  simp only [List.length_map, List.length_range] at this
  exact this
/-- the queue of the reference -/
def QI (G : GM) (V : ASt) : Prop :=
  0 ≤ V 142 56 ∧ V 142 56 ≤ 200 ∧ (∀ i, 0 ≤ i → i < V 142 56 → 0 ≤ V 179 i ∧ V 179 i < qPos G ∧ V 178 (V 179 i) = 1) ∧
  (∀ i j, 0 ≤ i → i < V 142 56 → 0 ≤ j → j < V 142 56 → V 179 i = V 179 j → i = j) ∧
  (∀ p, 0 ≤ p → p < 200 → V 178 p = 0 ∨ (V 178 p = 1 ∧ ∃ i, 0 ≤ i ∧ i < V 142 56 ∧ V 179 i = p))
/-- the queue of U goes on from that of V, and nothing else is changed -/
def QX (V U : ASt) : Prop :=
  (∀ a, a ≠ 142 → a ≠ 178 → a ≠ 179 → U a = V a) ∧ (∀ k, k ≠ 56 → U 142 k = V 142 k) ∧ V 142 56 ≤ U 142 56 ∧ (∀ i, i < V 142 56 → U 179 i = V 179 i) ∧ (∀ q, V 178 q = 1 → U 178 q = 1)
theorem M_comes {G : GM} (hG : GOK G) {V : ASt} (h : QI G V) {p : Int} (hp : 0 ≤ p ∧ p < qPos G) : Tr (f_M_comes S0 V 142 p) (fun _ U => QI G U ∧ QX V U ∧ U 178 p = 1) := by
  have hq := qPos_le hG
  obtain ⟨h1, h2, h3, h4, h5⟩ := h
  unfold f_M_comes
  refine Tr_gd O_142 ?_
  rw [F_142_54, A_178, gd_in (by omega) (by omega)]
  refine Tr_if (fun c => ?_) (fun c => ?_)
  · have hx : V 142 56 < 200 := pigeonX (f := V 179) (p := p) h1 (by omega) (fun i a b => by have := h3 i a b; omega) h4 (fun i a b e => by have := (h3 i a b).2.2; rw [e] at this; omega)
    refine Tr_set (fun V1 e1 n1 => ?_)
    rw [F_142_55, A_179, n1 142 (by decide), gd_in (by omega) (by omega)]
    refine Tr_set (fun V2 e2 n2 => ?_)
    rw [n2 142 (by decide), n1 142 (by decide), w32_id (by omega) (by omega)]
    refine Tr_set (fun V3 e3 n3 => ?_)
    have r142 : V3 142 = upI (V 142) 56 (V 142 56 + 1) := by rw [e3, n2 142 (by decide), n1 142 (by decide)]
    have r178 : V3 178 = upI (V 178) p 1 := by rw [n3 178 (by decide), n2 178 (by decide), e1]
    have r179 : V3 179 = upI (V 179) (V 142 56) p := by rw [n3 179 (by decide), e2, n1 179 (by decide)]
    refine Tr_ret ⟨?_, ?_, by rw [r178, upI_s]⟩
    · unfold QI
      rw [r142, r178, r179, upI_s]
      refine ⟨by omega, by omega, fun i a b => ?_, fun i j a b a' b' e => ?_, fun q a b => ?_⟩
      · by_cases hi : i = V 142 56
        · subst hi; rw [upI_s, upI_s]; omega
        · rw [upI_n _ _ hi]
          have := h3 i a (by omega)
          refine ⟨this.1, this.2.1, ?_⟩
          by_cases hh : V 179 i = p
          · rw [hh, upI_s]
          · rw [upI_n _ _ hh]; exact this.2.2
      · by_cases hi : i = V 142 56
        · subst hi
          rw [upI_s] at e
          by_cases hj : j = V 142 56
          · omega
          · rw [upI_n _ _ hj] at e
            have := (h3 j a' (by omega)).2.2
            rw [← e] at this; omega
        · rw [upI_n _ _ hi] at e
          by_cases hj : j = V 142 56
          · subst hj
            rw [upI_s] at e
            have := (h3 i a (by omega)).2.2
            rw [e] at this; omega
          · rw [upI_n _ _ hj] at e
            exact h4 i j a (by omega) a' (by omega) e
      · by_cases hh : q = p
        · subst hh
          rw [upI_s]
          exact Or.inr ⟨rfl, V 142 56, h1, by omega, upI_s _ _ _⟩
        · rw [upI_n _ _ hh]
          rcases h5 q a b with k | ⟨k, i, i1, i2, i3⟩
          · exact Or.inl k
          · exact Or.inr ⟨k, i, i1, by omega, by rw [upI_n _ _ (by omega)]; exact i3⟩
    · unfold QX
      rw [r142, r178, r179]
      refine ⟨fun a a1 a2 a3 => by rw [n3 a a1, n2 a a3, n1 a a2], fun k hk => upI_n _ _ hk, by rw [upI_s]; omega, fun i hi => upI_n _ _ (by omega), fun q hq' => ?_⟩
      by_cases hh : q = p
      · subst hh; rw [upI_s]
      · rw [upI_n _ _ hh]; exact hq'
  · refine Tr_ret ⟨⟨h1, h2, h3, h4, h5⟩, ⟨fun _ _ _ _ => rfl, fun _ _ => rfl, Int.le_refl _, fun _ _ => rfl, fun _ hq' => hq'⟩, ?_⟩
    rcases h5 p hp.1 (by omega) with k | ⟨k, -⟩
    · omega
    · exact k
theorem leadS_r {G : GM} (hG : GOK G) {s : SL} {p k g : Int} (hp : 0 ≤ p) (hg : 0 ≤ g ∧ g ≤ qF G) : ∀ n, leadS G s p k g n = -1 ∨ leadS G s p k g n = -2 ∨ (0 ≤ leadS G s p k g n ∧ leadS G s p k g n < qPos G) := by
  intro n
  induction n with
  | zero => exact Or.inr (Or.inr (beh_r hG hp hg))
  | succ n ih =>
    rw [leadS]
    by_cases c : sX s (sA s n) = 0 ∧ 2 ≤ qK G (sA s n) ∧ hold G (sA s n) p k g = 1
    · rw [if_pos c]
      by_cases d : kNow G s (sA s n) = 2
      · rw [if_pos d]; exact Or.inl rfl
      · rw [if_neg d]; exact Or.inr (Or.inl rfl)
    · rw [if_neg c]; exact ih
theorem lead_r {G : GM} (hG : GOK G) {s : SL} {p k g : Int} (hp : 0 ≤ p) (hg : 0 ≤ g ∧ g ≤ qF G) : lead G s p k g = -1 ∨ lead G s p k g = -2 ∨ (0 ≤ lead G s p k g ∧ lead G s p k g < qPos G) := leadS_r hG hp hg _
theorem lawS_r (G : GM) (s : SL) (p k g : Int) : ∀ n, lawS G s p k g n = 0 ∨ lawS G s p k g n = 1 := by
  intro n
  induction n with
  | zero => exact Or.inl rfl
  | succ n ih =>
    rw [lawS]
    by_cases c : sX s (sA s n) = 0 ∧ qK G (sA s n) < 2 ∧ qI G (sA s n) = k ∧ goalQ G s (sA s n) (spt G p k) = g ∧ hold G (sA s n) p k g = 1
    · rw [if_pos c]
      by_cases d : kNow G s (sA s n) = 0
      · rw [if_pos d]; exact Or.inr rfl
      · rw [if_neg d]; exact Or.inl rfl
    · rw [if_neg c]; exact ih
theorem law_r (G : GM) (s : SL) (p k g : Int) : law G s p k g = 0 ∨ law G s p k g = 1 := by
  unfold law
  by_cases c : spt G p k = qF G ∨ (qO G k ≠ 2 ∧ qO G k ≠ p % 2)
  · rw [if_pos c]; exact Or.inl rfl
  · rw [if_neg c]; exact lawS_r _ _ _ _ _ _
/-- the rows of the reference hold the moves l of p -/
def mvR (G : GM) (s : SL) (W : ASt) (p : Int) (l : List Int) : Prop :=
  W 175 p = l.length ∧ ∀ i : Nat, i < l.length → W 176 (20 * p + i) = l.getD i 0 ∧ W 177 (20 * p + i) = nxt G s p (l.getD i 0)
/-- the moves l of p have been laid, from V on -/
def MI (G : GM) (s : SL) (V : ASt) (p : Int) (W : ASt) (l : List Int) : Prop :=
  (∀ a, (a < 142 ∨ (142 < a ∧ a < 167) ∨ (168 < a ∧ a < 175) ∨ 179 < a) → W a = V a) ∧ (∀ k, k ≠ 56 → W 142 k = V 142 k) ∧
  QI G W ∧ V 142 56 ≤ W 142 56 ∧ (∀ i, i < V 142 56 → W 179 i = V 179 i) ∧ (∀ q, V 178 q = 1 → W 178 q = 1) ∧
  mvR G s W p l ∧ (∀ q, q ≠ p → W 175 q = V 175 q) ∧ (∀ x, (x < 20 * p ∨ 20 * p + 20 ≤ x) → W 176 x = V 176 x ∧ W 177 x = V 177 x) ∧
  (∀ c, c ∈ l → 0 ≤ nxt G s p c → W 178 (nxt G s p c) = 1)
theorem MI_T {G : GM} {s : SL} {V : ASt} {p : Int} {W U : ASt} {l : List Int} (h : MI G s V p W l) (f : frT W U) : MI G s V p U l := by
  obtain ⟨h1, h2, h3, h4, h5, h6, h7, h8, h9, h10⟩ := h
  have e : ∀ a, a ≠ 167 → a ≠ 168 → U a = W a := f
  have e142 := e 142 (by decide) (by decide)
  have e175 := e 175 (by decide) (by decide)
  have e176 := e 176 (by decide) (by decide)
  have e177 := e 177 (by decide) (by decide)
  have e178 := e 178 (by decide) (by decide)
  have e179 := e 179 (by decide) (by decide)
  refine ⟨fun a ha => by rw [e a (by omega) (by omega), h1 a ha], ?_⟩
  unfold QI mvR at *
  rw [e142, e175, e176, e177, e178, e179]
  exact ⟨h2, h3, h4, h5, h6, h7, h8, h9, h10⟩
theorem rG_fr2 {G : GM} {b : Int} {V W : ASt} (hb : W 142 12 = V 142 12) (h : ∀ a, 143 ≤ a → a ≤ 159 → W a = V a) (g : rG G b V) : rG G b W := by
  unfold rG at *
  rw [hb, h 144 (by decide) (by decide), h 145 (by decide) (by decide), h 147 (by decide) (by decide), h 148 (by decide) (by decide), h 149 (by decide) (by decide), h 150 (by decide) (by decide), h 151 (by decide) (by decide), h 152 (by decide) (by decide), h 153 (by decide) (by decide), h 154 (by decide) (by decide), h 155 (by decide) (by decide)]
  exact g
theorem okc_e {G : GM} (hG : GOK G) (s : SL) {p k g : Int} (hk : 0 ≤ k ∧ k < qP G) (hg : 0 ≤ g ∧ g ≤ qF G) : okc G s p (10 * k + g) = decide (law G s p k g = 1) := by
  have := hG.1
  unfold okc
  rw [show (10 * k + g) / 10 = k by omega, show (10 * k + g) % 10 = g by omega, decide_eq_true hk.2, decide_eq_true hg.2, Bool.true_and, Bool.true_and]
theorem nxt_e {G : GM} (hG : GOK G) (s : SL) {p k g : Int} (hg : 0 ≤ g ∧ g ≤ qF G) : nxt G s p (10 * k + g) = lead G s p k g := by
  have := hG.1
  unfold nxt
  rw [show (10 * k + g) / 10 = k by omega, show (10 * k + g) % 10 = g by omega]
theorem getD_snoc (l : List Int) (c : Int) (i : Nat) : (l ++ [c]).getD i 0 = if i < l.length then l.getD i 0 else if i = l.length then c else 0 := by
  rw [List.getD_eq_getElem?_getD, List.getD_eq_getElem?_getD]
  by_cases h : i < l.length
  · rw [if_pos h, List.getElem?_append_left h]
  · rw [if_neg h, List.getElem?_append_right (by omega)]
    by_cases h2 : i = l.length
    · rw [if_pos h2, h2, Nat.sub_self]; rfl
    · rw [if_neg h2, List.getElem?_eq_none (by simp; omega)]; rfl
theorem mo_L24 {G : GM} {b : Int} {s : SL} {V : ASt} (hG : GOK G) (hs' : SOK G s) (h : rG G b V) (hs : rS G s V) (hT : rT G b V) {p k : Int} (hp : 0 ≤ p ∧ p < qPos G) (hk : 0 ≤ k ∧ k < qP G) {K : ASt → Int → Option (Int × ASt)} {Q : Int → ASt → Prop} (hK : ∀ W, MI G s V p W (cdsT G s p (10 * k + (qF G + 1)).toNat) → Tr (K W (k + 1)) Q) :
    ∀ (n : Nat) (g : Int) (W : ASt), 0 ≤ g → g ≤ qF G + 1 → qF G + 1 - g < n → MI G s V p W (cdsT G s p (10 * k + g).toNat) → Tr (b_M_movesOf_L24 S0 K 142 p k n W g) Q := by
  intro n
  induction n with
  | zero => intro g W h1 h2 h3; omega
  | succ n ih =>
    intro g W g0 g1 hn hW
    have hq := qPos_le hG
    have hF := hG.1
    have hP := hG.2.1
    have hr := hW.1
    have hb : W 142 12 = V 142 12 := hW.2.1 12 (by decide)
    have gW : rG G b W := rG_fr2 hb (fun a a1 a2 => hr a (by omega)) h
    have sW : rS G s W := rS_fr (fun a a1 a2 => hr a (by omega)) hs
    have tW : rT G b W := rT_fr (fun a a1 a2 => hr a (by omega)) hT
    have hb2 := gW.2.1
    rw [b_M_movesOf_L24, F_142_13, A_144, gW.1, gd_in (by omega) (by omega), gW.2.2.1, w32_id (x := k + 1) (by omega) (by omega), w32_id (x := g + 1) (by omega) (by omega)]
    refine Tr_if (fun c => ?_) (fun c => ?_)
    · have : g = qF G + 1 := by omega
      subst this
      exact hK W hW
    refine Tr_bnd (M_isLawful hG hs' gW sW tW hp.1 (by omega) hk.1 hk.2 (by omega)) ?_
    rintro x W3 ⟨hx, f3⟩
    have hW3 := MI_T hW f3
    have hlen := cdsT_le G s p (10 * k + g).toNat
    have hsucc : (10 * k + (g + 1)).toNat = (10 * k + g).toNat + 1 := by omega
    have hcast : (((10 * k + g).toNat : Nat) : Int) = 10 * k + g := by omega
    have hok := okc_e hG s (p := p) hk (g := g) (by omega)
    refine Tr_if (fun c2 => ?_) (fun c2 => ?_)
    · refine ih (g + 1) W3 (by omega) (by omega) (by omega) ?_
      rw [hsucc, cdsT_s, hcast, hok, if_neg (by rw [decide_eq_true_eq]; omega), List.append_nil]
      exact hW3
    · have hl1 : law G s p k g = 1 := by have := law_r G s p k g; omega
      have hlist : cdsT G s p (10 * k + (g + 1)).toNat = cdsT G s p (10 * k + g).toNat ++ [10 * k + g] := by
        rw [hsucc, cdsT_s, hcast, hok, if_pos (by rw [decide_eq_true_eq]; exact hl1)]
      have ihh := ih (g + 1)
      rw [hlist] at ihh
      generalize cdsT G s p (10 * k + g).toNat = l at *
      obtain ⟨i1, i2, i3, i4, i5, i6, i7, i8, i9, i10⟩ := hW3
      rw [F_142_51, A_175, gd_in (by omega) (by omega), i7.1, F_142_52, A_176, w32_id (x := 20 * p) (by omega) (by omega), w32_id (x := 20 * p + (l.length : Int)) (by omega) (by omega), gd_in (by omega) (by omega), w32_id (x := 10 * k) (by omega) (by omega), w32_id (x := 10 * k + g) (by omega) (by omega)]
      refine Tr_set (fun V7 e7 n7 => ?_)
      have g7 : rG G b V7 := rG_fr2 (by rw [n7 142 (by decide), i2 12 (by decide)]) (fun a a1 a2 => by rw [n7 a (by omega), i1 a (by omega)]) h
      have s7 : rS G s V7 := rS_fr (fun a a1 a2 => by rw [n7 a (by omega), i1 a (by omega)]) hs
      have t7 : rT G b V7 := rT_fr (fun a a1 a2 => by rw [n7 a (by omega), i1 a (by omega)]) hT
      refine Tr_bnd (M_leads hG hs' g7 s7 t7 hp.1 (by omega) hk.1 hk.2 (by omega)) ?_
      rintro t V9 ⟨ht, f9⟩
      rw [F_142_53, A_177, gd_in (by omega) (by omega)]
      refine Tr_set (fun V12 e12 n12 => ?_)
      have v175 : V12 175 = W3 175 := by rw [n12 175 (by decide), f9 175 (by decide) (by decide), n7 175 (by decide)]
      rw [v175, i7.1, w32_id (x := (l.length : Int) + 1) (by omega) (by omega)]
      refine Tr_set (fun V13 e13 n13 => ?_)
      have r175 : V13 175 = upI (W3 175) p ((l.length : Int) + 1) := by rw [e13, v175]
      have r176 : V13 176 = upI (W3 176) (20 * p + l.length) (10 * k + g) := by rw [n13 176 (by decide), n12 176 (by decide), f9 176 (by decide) (by decide), e7]
      have r177 : V13 177 = upI (W3 177) (20 * p + l.length) t := by rw [n13 177 (by decide), e12, f9 177 (by decide) (by decide), n7 177 (by decide)]
      have rO : ∀ a, a ≠ 167 → a ≠ 168 → a ≠ 175 → a ≠ 176 → a ≠ 177 → V13 a = W3 a := fun a a1 a2 a3 a4 a5 => by rw [n13 a a3, n12 a a5, f9 a a1 a2, n7 a a4]
      have hnx : nxt G s p (10 * k + g) = t := by rw [nxt_e hG s (by omega), ht]
      have hQ13 : QI G V13 := by
        unfold QI at *
        rw [rO 142 (by decide) (by decide) (by decide) (by decide) (by decide), rO 178 (by decide) (by decide) (by decide) (by decide) (by decide), rO 179 (by decide) (by decide) (by decide) (by decide) (by decide)]
        exact i3
      have hfin : ∀ U : ASt, QI G U → QX V13 U → (0 ≤ t → U 178 t = 1) → MI G s V p U (l ++ [10 * k + g]) := by
        intro U q1 q2 q3
        obtain ⟨x1, x2, x3, x4, x5⟩ := q2
        refine ⟨fun a ha => by rw [x1 a (by omega) (by omega) (by omega), rO a (by omega) (by omega) (by omega) (by omega) (by omega), i1 a ha], fun j hj => by rw [x2 j hj, rO 142 (by decide) (by decide) (by decide) (by decide) (by decide), i2 j hj], q1, ?_, ?_, ?_, ?_, ?_, ?_, ?_⟩
        · rw [rO 142 (by decide) (by decide) (by decide) (by decide) (by decide)] at x3; omega
        · intro i hi
          rw [rO 142 (by decide) (by decide) (by decide) (by decide) (by decide), rO 179 (by decide) (by decide) (by decide) (by decide) (by decide)] at x4
          rw [x4 i (by omega), i5 i hi]
        · intro q hq'
          refine x5 q ?_
          rw [rO 178 (by decide) (by decide) (by decide) (by decide) (by decide)]
          exact i6 q hq'
        · unfold mvR
          rw [x1 175 (by decide) (by decide) (by decide), x1 176 (by decide) (by decide) (by decide), x1 177 (by decide) (by decide) (by decide), r175, r176, r177, upI_s]
          refine ⟨by simp, fun i hi => ?_⟩
          rw [getD_snoc]
          simp only [List.length_append, List.length_cons, List.length_nil, Nat.zero_add] at hi
          by_cases hil : i < l.length
          · rw [if_pos hil, upI_n _ _ (by omega), upI_n _ _ (by omega)]
            exact i7.2 i hil
          · have : i = l.length := by omega
            subst this
            rw [if_neg (by omega), if_pos rfl, upI_s, upI_s, hnx]
            exact ⟨rfl, rfl⟩
        · intro q hq'
          rw [x1 175 (by decide) (by decide) (by decide), r175, upI_n _ _ hq', i8 q hq']
        · intro x hx'
          rw [x1 176 (by decide) (by decide) (by decide), x1 177 (by decide) (by decide) (by decide), r176, r177, upI_n _ _ (by omega), upI_n _ _ (by omega)]
          exact i9 x hx'
        · intro c hc hc0
          rw [List.mem_append] at hc
          rcases hc with hc | hc
          · refine x5 _ ?_
            rw [rO 178 (by decide) (by decide) (by decide) (by decide) (by decide)]
            exact i10 c hc hc0
          · have : c = 10 * k + g := by simpa using hc
            subst this
            rw [hnx] at hc0 ⊢
            exact q3 hc0
      rw [r177, upI_s]
      refine Tr_if (fun c3 => ?_) (fun c3 => ?_)
      · exact ihh V13 (by omega) (by omega) (by omega) (hfin V13 hQ13 ⟨fun _ _ _ _ => rfl, fun _ _ => rfl, Int.le_refl _, fun _ _ => rfl, fun _ hq' => hq'⟩ (fun h => by omega))
      · have htr : 0 ≤ t ∧ t < qPos G := by
          have := lead_r hG (s := s) (p := p) (k := k) (g := g) hp.1 (by omega)
          omega
        refine Tr_bnd (M_comes hG hQ13 htr) ?_
        rintro y V15 ⟨q1, q2, q3⟩
        exact ihh V15 (by omega) (by omega) (by omega) (hfin V15 q1 q2 (fun _ => q3))
theorem cdsT_gap {G : GM} (s : SL) (p : Int) {k : Int} (hk : 0 ≤ k) (hF : 0 ≤ qF G ∧ qF G ≤ 9) : ∀ d : Nat, (d : Int) ≤ 9 - qF G → cdsT G s p ((10 * k + (qF G + 1)).toNat + d) = cdsT G s p (10 * k + (qF G + 1)).toNat := by
  intro d
  induction d with
  | zero => intro _; rfl
  | succ d ih =>
    intro hd
    rw [show (10 * k + (qF G + 1)).toNat + (d + 1) = ((10 * k + (qF G + 1)).toNat + d) + 1 by omega, cdsT_s, ih (by omega), if_neg, List.append_nil]
    unfold okc
    rw [Bool.and_eq_true, Bool.and_eq_true, decide_eq_true_eq, decide_eq_true_eq]
    omega
theorem cdsT_end {G : GM} (s : SL) (p : Int) (hP : 0 ≤ qP G ∧ qP G ≤ 2) : ∀ d : Nat, cdsT G s p ((10 * qP G).toNat + d) = cdsT G s p (10 * qP G).toNat := by
  intro d
  induction d with
  | zero => rfl
  | succ d ih =>
    rw [show (10 * qP G).toNat + (d + 1) = ((10 * qP G).toNat + d) + 1 by omega, cdsT_s, ih, if_neg, List.append_nil]
    unfold okc
    rw [Bool.and_eq_true, Bool.and_eq_true, decide_eq_true_eq, decide_eq_true_eq]
    omega
theorem mo_L9 {G : GM} {b : Int} {s : SL} {V : ASt} (hG : GOK G) (hs' : SOK G s) (h : rG G b V) (hs : rS G s V) (hT : rT G b V) {p : Int} (hp : 0 ≤ p ∧ p < qPos G) :
    ∀ (n : Nat) (k : Int) (W : ASt), 0 ≤ k → k ≤ qP G → qP G - k < n → MI G s V p W (cdsT G s p (10 * k).toNat) → Tr (b_M_movesOf_L9 S0 142 p n W k) (fun _ U => MI G s V p U (cds G s p)) := by
  intro n
  induction n with
  | zero => intro k W h1 h2 h3; omega
  | succ n ih =>
    intro k W k0 k1 hn hW
    have hF := hG.1
    have hP := hG.2.1
    have hr := hW.1
    have gW : rG G b W := rG_fr2 (hW.2.1 12 (by decide)) (fun a a1 a2 => hr a (by omega)) h
    have hb2 := gW.2.1
    rw [b_M_movesOf_L9, F_142_14, A_145, gW.1, gd_in (by omega) (by omega), gW.2.2.2.1]
    refine Tr_if (fun c => ?_) (fun c => ?_)
    · have : k = qP G := by omega
      subst this
      refine Tr_ret ?_
      have e := cdsT_end (G := G) s p hP (20 - (10 * qP G).toNat)
      rw [show (10 * qP G).toNat + (20 - (10 * qP G).toNat) = 20 by omega, cdsT_20] at e
      rw [e]; exact hW
    · refine mo_L24 hG hs' h hs hT hp ⟨k0, by omega⟩ (fun U hU => ?_) FU 0 W (by omega) (by omega) (by rw [FU_v]; omega) (by rw [Int.add_zero]; exact hW)
      refine ih (k + 1) U (by omega) (by omega) (by omega) ?_
      have e := cdsT_gap (G := G) s p k0 hF (9 - qF G).toNat (by omega)
      rw [show (10 * k + (qF G + 1)).toNat + (9 - qF G).toNat = (10 * (k + 1)).toNat by omega] at e
      rw [e]; exact hU
theorem M_movesOf {G : GM} {b : Int} {s : SL} {V : ASt} (hG : GOK G) (hs' : SOK G s) (h : rG G b V) (hs : rS G s V) (hT : rT G b V) (hQ : QI G V) {p : Int} (hp : 0 ≤ p ∧ p < qPos G) : Tr (f_M_movesOf S0 V 142 p) (fun _ U => MI G s V p U (cds G s p)) := by
  have hq := qPos_le hG
  unfold f_M_movesOf
  refine Tr_gd O_142 ?_
  rw [F_142_51, A_175, gd_in (by omega) (by omega)]
  refine Tr_set (fun V1 e1 n1 => ?_)
  refine mo_L9 hG hs' h hs hT hp FU 0 V1 (by omega) (by have := hG.2.1; omega) (by rw [FU_v]; have := hG.2.1; omega) ?_
  refine ⟨fun a ha => n1 a (by omega), fun k _ => by rw [n1 142 (by decide)], ?_, by rw [n1 142 (by decide)]; exact Int.le_refl _, fun i _ => by rw [n1 179 (by decide)], fun q hq' => by rw [n1 178 (by decide)]; exact hq', ?_, fun q hq' => by rw [e1, upI_n _ _ hq'], fun x _ => by rw [n1 176 (by decide), n1 177 (by decide)]; exact ⟨rfl, rfl⟩, fun c hc => by cases hc⟩
  · unfold QI at *
    rw [n1 142 (by decide), n1 178 (by decide), n1 179 (by decide)]
    exact hQ
  · unfold mvR
    rw [e1, upI_s]
    exact ⟨rfl, fun i hi => absurd hi (Nat.not_lt_zero i)⟩
/-- rows and fields that laying leaves as they are -/
def frL (V W : ASt) : Prop := (∀ a, (a < 142 ∨ (142 < a ∧ a < 167) ∨ (168 < a ∧ a < 175) ∨ 179 < a) → W a = V a) ∧ (∀ k, k ≠ 56 → W 142 k = V 142 k)
theorem frL_rfl (V : ASt) : frL V V := ⟨fun _ _ => rfl, fun _ _ => rfl⟩
theorem frL_tr {V U W : ASt} (h : frL V U) (h2 : frL U W) : frL V W := ⟨fun a ha => by rw [h2.1 a ha, h.1 a ha], fun k hk => by rw [h2.2 k hk, h.2 k hk]⟩
theorem rG_L {G : GM} {b : Int} {V W : ASt} (h : frL V W) (g : rG G b V) : rG G b W := rG_fr2 (h.2 12 (by decide)) (fun a _ _ => h.1 a (by omega)) g
theorem rS_L {G : GM} {s : SL} {V W : ASt} (h : frL V W) (g : rS G s V) : rS G s W := rS_fr (fun a _ _ => h.1 a (by omega)) g
theorem rT_L {G : GM} {b : Int} {V W : ASt} (h : frL V W) (g : rT G b V) : rT G b W := rT_fr (fun a _ _ => h.1 a (by omega)) g
/-- the moves of the first x of the queue are laid -/
def LD (G : GM) (s : SL) (W : ASt) (x : Int) : Prop := QI G W ∧ ∀ i, 0 ≤ i → i < x → mvR G s W (W 179 i) (cds G s (W 179 i)) ∧ ∀ c, c ∈ cds G s (W 179 i) → 0 ≤ nxt G s (W 179 i) c → W 178 (nxt G s (W 179 i) c) = 1
theorem cds_le (G : GM) (s : SL) (p : Int) : (cds G s p).length ≤ 20 := cdsT_le G s p 20
theorem la_L65 {G : GM} {b : Int} {s : SL} (hG : GOK G) (hs' : SOK G s) : ∀ (n : Nat) (x : Int) (V : ASt), rG G b V → rS G s V → rT G b V → 0 ≤ x → x ≤ V 142 56 → 200 - x < n → LD G s V x →
    Tr (b_M_lays_L65 S0 142 n V x) (fun _ U => LD G s U (U 142 56) ∧ frL V U ∧ (∀ q, V 178 q = 1 → U 178 q = 1)) := by
  intro n
  induction n with
  | zero => intro x V _ _ _ h1 h2 h3 h4; have := h4.1.2.1; omega
  | succ n ih =>
    intro x V hg hs hT x0 x1 hn hL
    have hQ := hL.1
    have h200 := hQ.2.1
    rw [b_M_lays_L65]
    refine Tr_if (fun c => ?_) (fun c => ?_)
    · have e : x = V 142 56 := by omega
      refine Tr_ret ⟨by rw [← e]; exact hL, frL_rfl V, fun _ h => h⟩
    rw [F_142_55, A_179, gd_in (by omega) (by omega), w32_id (x := x + 1) (by omega) (by omega)]
    have hp := hQ.2.2.1 x x0 (by omega)
    refine Tr_bnd (M_movesOf hG hs' hg hs hT hQ (p := V 179 x) ⟨hp.1, hp.2.1⟩) ?_
    rintro y U ⟨i1, i2, i3, i4, i5, i6, i7, i8, i9, i10⟩
    have fU : frL V U := ⟨i1, i2⟩
    refine Tr_mono (ih (x + 1) U (rG_L fU hg) (rS_L fU hs) (rT_L fU hT) (by omega) (by omega) (by omega) ⟨i3, fun i a c2 => ?_⟩) ?_
    · have e179 : U 179 i = V 179 i := i5 i (by omega)
      rw [e179]
      by_cases hi : i = x
      · subst hi
        exact ⟨i7, i10⟩
      · have hne : V 179 i ≠ V 179 x := fun e => hi (hQ.2.2.2.1 i x a (by omega) x0 (by omega) e)
        have hl := hL.2 i a (by omega)
        have hpi := hQ.2.2.1 i a (by omega)
        have l20 := cds_le G s (V 179 i)
        refine ⟨⟨by rw [i8 _ hne]; exact hl.1.1, fun j hj => ?_⟩, fun c hc h0 => i6 _ (hl.2 c hc h0)⟩
        have := i9 (20 * V 179 i + j) (by omega)
        rw [this.1, this.2]
        exact hl.1.2 j hj
    · rintro r W ⟨w1, w2, w3⟩
      exact ⟨w1, frL_tr fU w2, fun q hq => w3 q (i6 q hq)⟩
theorem la_L39 {G : GM} {b : Int} {s : SL} (hG : GOK G) (hs' : SOK G s) (fr : Int) : ∀ (n : Nat) (x : Int) (V : ASt), rG G b V → rS G s V → rT G b V → QI G V → 0 ≤ x → x ≤ qPos G → qPos G - x < n → (fr = -1 → ∀ q, 0 ≤ q → q < x → V 178 q = 1) →
    Tr (b_M_lays_L39 S0 142 fr n V x) (fun _ U => LD G s U (U 142 56) ∧ frL V U ∧ (∀ q, V 178 q = 1 → U 178 q = 1) ∧ (fr = -1 → ∀ q, 0 ≤ q → q < qPos G → U 178 q = 1)) := by
  intro n
  induction n with
  | zero => intro x V _ _ _ _ h1 h2 h3; omega
  | succ n ih =>
    intro x V hg hs hT hQ x0 x1 hn hl
    have hq := qPos_le hG
    have hend := la_L65 hG hs' FU 0 V hg hs hT (Int.le_refl _) hQ.1 (by rw [FU_v]; omega) ⟨hQ, fun i a c => by omega⟩
    rw [b_M_lays_L39]
    refine Tr_bq (M_positions hG hg) ?_
    refine Tr_if (fun c => ?_) (fun c => ?_)
    · refine Tr_mono hend ?_
      rintro r U ⟨u1, u2, u3⟩
      exact ⟨u1, u2, u3, fun e q a c2 => u3 q (hl e q a (by omega))⟩
    refine Tr_if (fun c2 => ?_) (fun c2 => ?_)
    · refine Tr_bnd (M_comes hG hQ (p := x) ⟨x0, by omega⟩) ?_
      rintro r U ⟨q1, q2, q3⟩
      have fU : frL V U := ⟨fun a ha => q2.1 a (by omega) (by omega) (by omega), q2.2.1⟩
      rw [w32_id (x := x + 1) (by omega) (by omega)]
      refine Tr_mono (ih (x + 1) U (rG_L fU hg) (rS_L fU hs) (rT_L fU hT) q1 (by omega) (by omega) (by omega) (fun e q a c3 => ?_)) ?_
      · by_cases hqx : q = x
        · subst hqx; exact q3
        · exact q2.2.2.2.2 q (hl e q a (by omega))
      · rintro r2 W ⟨w1, w2, w3, w4⟩
        exact ⟨w1, frL_tr fU w2, fun q hq' => w3 q (q2.2.2.2.2 q hq'), w4⟩
    · refine Tr_mono hend ?_
      rintro r U ⟨u1, u2, u3⟩
      exact ⟨u1, u2, u3, fun e => absurd e c2⟩
theorem la_L2 {fr : Int} {V0 : ASt} {Q : Int → ASt → Prop} (hK : ∀ W : ASt, (∀ a, a ≠ 178 → W a = V0 a) → (∀ q, 0 ≤ q → q < 200 → W 178 q = 0) → Tr (wV (aset W 142 56 0) (fun V11 => if fr = (-1) then (b_M_lays_L39 S0 142 fr FU V11 0) else (bnd (f_M_comes S0 V11 142 fr) (fun r12 V13 => b_M_lays_L39 S0 142 fr FU V13 0)))) Q) :
    ∀ (n : Nat) (x : Int) (V : ASt), (∀ a, a ≠ 178 → V a = V0 a) → 0 ≤ x → x ≤ 200 → 200 - x < n → (∀ q, 0 ≤ q → q < x → V 178 q = 0) → Tr (b_M_lays_L2 S0 142 fr n V x) Q := by
  intro n
  induction n with
  | zero => intro x V _ h1 h2 h3; omega
  | succ n ih =>
    intro x V h0 x0 x1 hn hz
    rw [b_M_lays_L2]
    refine Tr_if (fun c => ?_) (fun c => ?_)
    · exact hK V h0 (fun q a c2 => hz q a (by omega))
    rw [F_142_54, A_178, gd_in (by omega) (by omega)]
    refine Tr_set (fun V1 e1 n1 => ?_)
    rw [w32_id (x := x + 1) (by omega) (by omega)]
    refine ih (x + 1) V1 (fun a ha => by rw [n1 a ha, h0 a ha]) (by omega) (by omega) (by omega) (fun q a c2 => ?_)
    by_cases hq : q = x
    · subst hq; rw [e1, upI_s]
    · rw [e1, upI_n _ _ hq]; exact hz q a (by omega)
theorem M_lays {G : GM} {b : Int} {s : SL} {V : ASt} (hG : GOK G) (hs' : SOK G s) (hg : rG G b V) (hs : rS G s V) (hT : rT G b V) {fr : Int} (hf : fr = -1 ∨ (0 ≤ fr ∧ fr < qPos G)) :
    Tr (f_M_lays S0 V 142 fr) (fun _ U => LD G s U (U 142 56) ∧ frL V U ∧ (fr ≠ -1 → U 178 fr = 1) ∧ (fr = -1 → ∀ q, 0 ≤ q → q < qPos G → U 178 q = 1)) := by
  have hq := qPos_le hG
  unfold f_M_lays
  refine Tr_gd O_142 ?_
  refine la_L2 (V0 := V) (fun W w1 w2 => ?_) FU 0 V (fun _ _ => rfl) (by omega) (by omega) (by rw [FU_v]; omega) (fun q a c => by omega)
  refine Tr_set (fun V1 e1 n1 => ?_)
  have fV : frL V V1 := ⟨fun a ha => by rw [n1 a (by omega), w1 a (by omega)], fun k hk => by rw [e1, upI_n _ _ hk, w1 142 (by decide)]⟩
  have r56 : V1 142 56 = 0 := by rw [e1, upI_s]
  have hQ : QI G V1 := by
    unfold QI
    rw [r56]
    refine ⟨by omega, by omega, fun i a c => by omega, fun i j a c => by omega, fun p a c => Or.inl ?_⟩
    rw [n1 178 (by decide)]; exact w2 p a c
  refine Tr_if (fun c => ?_) (fun c => ?_)
  · refine Tr_mono (la_L39 hG hs' fr FU 0 V1 (rG_L fV hg) (rS_L fV hs) (rT_L fV hT) hQ (by omega) (by omega) (by rw [FU_v]; omega) (fun _ q a c2 => by omega)) ?_
    rintro r U ⟨u1, u2, u3, u4⟩
    exact ⟨u1, frL_tr fV u2, fun e => absurd c e, u4⟩
  · refine Tr_bnd (M_comes hG hQ (p := fr) (by omega)) ?_
    rintro r U ⟨q1, q2, q3⟩
    have fU : frL V U := frL_tr fV ⟨fun a ha => q2.1 a (by omega) (by omega) (by omega), q2.2.1⟩
    refine Tr_mono (la_L39 hG hs' fr FU 0 U (rG_L fU hg) (rS_L fU hs) (rT_L fU hT) q1 (by omega) (by omega) (by rw [FU_v]; omega) (fun e q a c2 => by omega)) ?_
    rintro r2 W ⟨w1, w2, w3, w4⟩
    exact ⟨w1, frL_tr fU w2, fun _ => w3 fr q3, w4⟩
