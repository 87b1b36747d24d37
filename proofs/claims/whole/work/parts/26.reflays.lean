/-! the reference: laying moves out -/
theorem pigeon : ∀ (m n : Nat) (f : Nat → Nat), (∀ i, i < n → f i < m) → (∀ i j, i < n → j < n → f i = f j → i = j) → n ≤ m := by
  intro m
  induction m with
  | zero =>
    intro n f h1 h2
    cases n with
    | zero => exact Nat.le_refl 0
    | succ n => exact absurd (h1 0 (by omega)) (by omega)
  | succ m ih =>
    intro n f h1 h2
    cases n with
    | zero => omega
    | succ n =>
      -- move what stands at n out of the way of m
      have key := ih n (fun i => if f i = m then f n else f i) (by
        intro i hi
        have a := h1 i (by omega)
        have b := h1 n (by omega)
        by_cases e : f i = m
        · simp only [e, if_true]
          have : f n ≠ m := fun e2 => by have := h2 i n (by omega) (by omega) (by omega); omega
          omega
        · simp only [e, if_false]; omega) (by
        intro i j hi hj he
        by_cases e1 : f i = m <;> by_cases e2 : f j = m <;> simp only [e1, e2, if_true, if_false] at he
        · exact h2 i j (by omega) (by omega) (by omega)
        · have := h2 n j (by omega) (by omega) he; omega
        · have := h2 i n (by omega) (by omega) he; omega
        · exact h2 i j (by omega) (by omega) he)
      omega
/-- the same for rows of numbers -/
theorem pigeonI {m n : Int} {f : Int → Int} (hn : 0 ≤ n) (hm : 0 ≤ m) (h1 : ∀ i, 0 ≤ i → i < n → 0 ≤ f i ∧ f i < m) (h2 : ∀ i j, 0 ≤ i → i < n → 0 ≤ j → j < n → f i = f j → i = j) : n ≤ m := by
  have := pigeon m.toNat n.toNat (fun i => (f i).toNat) (by
    intro i hi
    have := h1 i (by omega) (by omega)
    show (f i).toNat < _
    omega) (by
    intro i j hi hj he
    have a := h1 i (by omega) (by omega)
    have b := h1 j (by omega) (by omega)
    have he' : (f i).toNat = (f j).toNat := he
    have := h2 i j (by omega) (by omega) (by omega) (by omega) (by omega)
    omega)
  omega
/-- and one place of the room is not taken -/
theorem pigeonX {m n p : Int} {f : Int → Int} (hn : 0 ≤ n) (hp : 0 ≤ p ∧ p < m) (h1 : ∀ i, 0 ≤ i → i < n → 0 ≤ f i ∧ f i < m) (h2 : ∀ i j, 0 ≤ i → i < n → 0 ≤ j → j < n → f i = f j → i = j) (h3 : ∀ i, 0 ≤ i → i < n → f i ≠ p) : n < m := by
  have := pigeonI (m := m) (n := n + 1) (f := fun i => if i = n then p else f i) (by omega) (by omega) (by
    intro i a b
    by_cases e : i = n
    · simp only [e, if_true]; exact hp
    · simp only [e, if_false]; exact h1 i a (by omega)) (by
    intro i j a b c d he
    by_cases e1 : i = n <;> by_cases e2 : j = n <;> simp only [e1, e2, if_true, if_false] at he
    · omega
    · exact absurd he.symm (h3 j c (by omega))
    · exact absurd he (h3 i a (by omega))
    · exact h2 i j a (by omega) c (by omega) he)
  omega
def cdsT (G : GM) (s : SL) (p : Int) (c : Nat) : List Int := ((List.range c).map (fun n : Nat => (n : Int))).filter (okc G s p)
theorem cdsT_20 (G : GM) (s : SL) (p : Int) : cdsT G s p 20 = cds G s p := rfl
theorem cdsT_s (G : GM) (s : SL) (p : Int) (c : Nat) : cdsT G s p (c + 1) = cdsT G s p c ++ (if okc G s p c = true then [(c : Int)] else []) := by
  unfold cdsT
  rw [List.range_succ, List.map_append, List.filter_append]
  congr 1
  by_cases h : okc G s p c = true
  · rw [if_pos h]; simp [h]
  · rw [if_neg h]; simp [h]
theorem cdsT_le (G : GM) (s : SL) (p : Int) (c : Nat) : (cdsT G s p c).length ≤ c := by
  have := List.length_filter_le (okc G s p) ((List.range c).map (fun n : Nat => (n : Int)))
  simp only [List.length_map, List.length_range] at this
  exact this
/-- the queue of the reference -/
def QI (G : GM) (V : ASt) : Prop :=
  0 ≤ V 142 56 ∧ V 142 56 ≤ 200 ∧ (∀ i, 0 ≤ i → i < V 142 56 → 0 ≤ V 179 i ∧ V 179 i < qPos G ∧ V 178 (V 179 i) = 1) ∧
  (∀ i j, 0 ≤ i → i < V 142 56 → 0 ≤ j → j < V 142 56 → V 179 i = V 179 j → i = j) ∧
  (∀ p, 0 ≤ p → p < 200 → V 178 p = 0 ∨ (V 178 p = 1 ∧ ∃ i, 0 ≤ i ∧ i < V 142 56 ∧ V 179 i = p))
/-- the queue of U goes on from that of V, and nothing else is changed -/
def QX (V U : ASt) : Prop :=
  (∀ a, a ≠ 142 → a ≠ 178 → a ≠ 179 → U a = V a) ∧ (∀ k, k ≠ 56 → U 142 k = V 142 k) ∧ V 142 56 ≤ U 142 56 ∧ (∀ i, i < V 142 56 → U 179 i = V 179 i) ∧ (∀ q, V 178 q = 1 → U 178 q = 1)
theorem M_comes {G : GM} (hG : GOK G) {V : ASt} (h : QI G V) {p : Int} (hp : 0 ≤ p ∧ p < qPos G) : Tr (f_M_comes S0 V 142 p) (fun _ U => QI G U ∧ QX V U ∧ U 178 p = 1) := by
  have hq := qPos_le hG
  obtain ⟨h1, h2, h3, h4, h5⟩ := h
  unfold f_M_comes
  refine Tr_gd O_142 ?_
  rw [F_142_54, A_178, gd_in (by omega) (by omega)]
  refine Tr_if (fun c => ?_) (fun c => ?_)
  · have hx : V 142 56 < 200 := pigeonX (f := V 179) (p := p) h1 (by omega) (fun i a b => by have := h3 i a b; omega) h4 (fun i a b e => by have := (h3 i a b).2.2; rw [e] at this; omega)
    refine Tr_set (fun V1 e1 n1 => ?_)
    rw [F_142_55, A_179, n1 142 (by decide), gd_in (by omega) (by omega)]
    refine Tr_set (fun V2 e2 n2 => ?_)
    rw [n2 142 (by decide), n1 142 (by decide), w32_id (by omega) (by omega)]
    refine Tr_set (fun V3 e3 n3 => ?_)
    have r142 : V3 142 = upI (V 142) 56 (V 142 56 + 1) := by rw [e3, n2 142 (by decide), n1 142 (by decide)]
    have r178 : V3 178 = upI (V 178) p 1 := by rw [n3 178 (by decide), n2 178 (by decide), e1]
    have r179 : V3 179 = upI (V 179) (V 142 56) p := by rw [n3 179 (by decide), e2, n1 179 (by decide)]
    refine Tr_ret ⟨?_, ?_, by rw [r178, upI_s]⟩
    · unfold QI
      rw [r142, r178, r179, upI_s]
      refine ⟨by omega, by omega, fun i a b => ?_, fun i j a b a' b' e => ?_, fun q a b => ?_⟩
      · by_cases hi : i = V 142 56
        · subst hi; rw [upI_s, upI_s]; omega
        · rw [upI_n _ _ hi]
          have := h3 i a (by omega)
          refine ⟨this.1, this.2.1, ?_⟩
          by_cases hh : V 179 i = p
          · rw [hh, upI_s]
          · rw [upI_n _ _ hh]; exact this.2.2
      · by_cases hi : i = V 142 56
        · subst hi
          rw [upI_s] at e
          by_cases hj : j = V 142 56
          · omega
          · rw [upI_n _ _ hj] at e
            have := (h3 j a' (by omega)).2.2
            rw [← e] at this; omega
        · rw [upI_n _ _ hi] at e
          by_cases hj : j = V 142 56
          · subst hj
            rw [upI_s] at e
            have := (h3 i a (by omega)).2.2
            rw [e] at this; omega
          · rw [upI_n _ _ hj] at e
            exact h4 i j a (by omega) a' (by omega) e
      · by_cases hh : q = p
        · subst hh
          rw [upI_s]
          exact Or.inr ⟨rfl, V 142 56, h1, by omega, upI_s _ _ _⟩
        · rw [upI_n _ _ hh]
          rcases h5 q a b with k | ⟨k, i, i1, i2, i3⟩
          · exact Or.inl k
          · exact Or.inr ⟨k, i, i1, by omega, by rw [upI_n _ _ (by omega)]; exact i3⟩
    · unfold QX
      rw [r142, r178, r179]
      refine ⟨fun a a1 a2 a3 => by rw [n3 a a1, n2 a a3, n1 a a2], fun k hk => upI_n _ _ hk, by rw [upI_s]; omega, fun i hi => upI_n _ _ (by omega), fun q hq' => ?_⟩
      by_cases hh : q = p
      · subst hh; rw [upI_s]
      · rw [upI_n _ _ hh]; exact hq'
  · refine Tr_ret ⟨⟨h1, h2, h3, h4, h5⟩, ⟨fun _ _ _ _ => rfl, fun _ _ => rfl, Int.le_refl _, fun _ _ => rfl, fun _ hq' => hq'⟩, ?_⟩
    rcases h5 p hp.1 (by omega) with k | ⟨k, -⟩
    · omega
    · exact k
theorem leadS_r {G : GM} (hG : GOK G) {s : SL} {p k g : Int} (hp : 0 ≤ p) (hg : 0 ≤ g ∧ g ≤ qF G) : ∀ n, leadS G s p k g n = -1 ∨ leadS G s p k g n = -2 ∨ (0 ≤ leadS G s p k g n ∧ leadS G s p k g n < qPos G) := by
  intro n
  induction n with
  | zero => exact Or.inr (Or.inr (beh_r hG hp hg))
  | succ n ih =>
    rw [leadS]
    by_cases c : sX s (sA s n) = 0 ∧ 2 ≤ qK G (sA s n) ∧ hold G (sA s n) p k g = 1
    · rw [if_pos c]
      by_cases d : kNow G s (sA s n) = 2
      · rw [if_pos d]; exact Or.inl rfl
      · rw [if_neg d]; exact Or.inr (Or.inl rfl)
    · rw [if_neg c]; exact ih
theorem lead_r {G : GM} (hG : GOK G) {s : SL} {p k g : Int} (hp : 0 ≤ p) (hg : 0 ≤ g ∧ g ≤ qF G) : lead G s p k g = -1 ∨ lead G s p k g = -2 ∨ (0 ≤ lead G s p k g ∧ lead G s p k g < qPos G) := leadS_r hG hp hg _
theorem lawS_r (G : GM) (s : SL) (p k g : Int) : ∀ n, lawS G s p k g n = 0 ∨ lawS G s p k g n = 1 := by
  intro n
  induction n with
  | zero => exact Or.inl rfl
  | succ n ih =>
    rw [lawS]
    by_cases c : sX s (sA s n) = 0 ∧ qK G (sA s n) < 2 ∧ qI G (sA s n) = k ∧ goalQ G s (sA s n) (spt G p k) = g ∧ hold G (sA s n) p k g = 1
    · rw [if_pos c]
      by_cases d : kNow G s (sA s n) = 0
      · rw [if_pos d]; exact Or.inr rfl
      · rw [if_neg d]; exact Or.inl rfl
    · rw [if_neg c]; exact ih
theorem law_r (G : GM) (s : SL) (p k g : Int) : law G s p k g = 0 ∨ law G s p k g = 1 := by
  unfold law
  by_cases c : spt G p k = qF G ∨ (qO G k ≠ 2 ∧ qO G k ≠ p % 2)
  · rw [if_pos c]; exact Or.inl rfl
  · rw [if_neg c]; exact lawS_r _ _ _ _ _ _
/-- the rows of the reference hold the moves l of p -/
def mvR (G : GM) (s : SL) (W : ASt) (p : Int) (l : List Int) : Prop :=
  W 175 p = l.length ∧ ∀ i : Nat, i < l.length → W 176 (20 * p + i) = l.getD i 0 ∧ W 177 (20 * p + i) = nxt G s p (l.getD i 0)
/-- the moves l of p have been laid, from V on -/
def MI (G : GM) (s : SL) (V : ASt) (p : Int) (W : ASt) (l : List Int) : Prop :=
  (∀ a, (a < 142 ∨ (142 < a ∧ a < 167) ∨ (168 < a ∧ a < 175) ∨ 179 < a) → W a = V a) ∧ (∀ k, k ≠ 56 → W 142 k = V 142 k) ∧
  QI G W ∧ V 142 56 ≤ W 142 56 ∧ (∀ i, i < V 142 56 → W 179 i = V 179 i) ∧ (∀ q, V 178 q = 1 → W 178 q = 1) ∧
  mvR G s W p l ∧ (∀ q, q ≠ p → W 175 q = V 175 q) ∧ (∀ x, (x < 20 * p ∨ 20 * p + 20 ≤ x) → W 176 x = V 176 x ∧ W 177 x = V 177 x) ∧
  (∀ c, c ∈ l → 0 ≤ nxt G s p c → W 178 (nxt G s p c) = 1)
theorem MI_T {G : GM} {s : SL} {V : ASt} {p : Int} {W U : ASt} {l : List Int} (h : MI G s V p W l) (f : frT W U) : MI G s V p U l := by
  obtain ⟨h1, h2, h3, h4, h5, h6, h7, h8, h9, h10⟩ := h
  have e : ∀ a, a ≠ 167 → a ≠ 168 → U a = W a := f
  have e142 := e 142 (by decide) (by decide)
  have e175 := e 175 (by decide) (by decide)
  have e176 := e 176 (by decide) (by decide)
  have e177 := e 177 (by decide) (by decide)
  have e178 := e 178 (by decide) (by decide)
  have e179 := e 179 (by decide) (by decide)
  refine ⟨fun a ha => by rw [e a (by omega) (by omega), h1 a ha], ?_⟩
  unfold QI mvR at *
  rw [e142, e175, e176, e177, e178, e179]
  exact ⟨h2, h3, h4, h5, h6, h7, h8, h9, h10⟩
