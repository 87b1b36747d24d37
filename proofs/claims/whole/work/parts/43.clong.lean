/-! the longest row: the class's -/
def MA (G : GM) (s : SL) (m : Int) (V : ASt) : Prop := ∀ p, 0 ≤ p → p < qPos G → mvH G s m V p
def RP (G : GM) (s : SL) (m : Int) (V : ASt) : Prop := ∀ i, 0 < i → i < V m 1 → ∃ j, 0 ≤ j ∧ j < i ∧ V (m + 1) i ∈ nx G s (V (m + 1) j)
theorem lf_L11 {G : GM} {s : SL} {m : Int} {V : ASt} (hG : GOK G) (hs : SOK G s) (hm : isMv m) (hA : MA G s m V) {st : Int} : ∀ (n : Nat) (x : Int) (W : ASt), 0 ≤ x → x ≤ W m 1 → 200 - x < n → (∀ a, a ≠ m → a ≠ m + 1 → a ≠ m + 2 → W a = V a) → (∀ k, k ≠ 1 → W m k = V m k) → QC G m W → 0 < W m 1 → W (m + 1) 0 = st → RP G s m W → (∀ i, 0 ≤ i → i < x → ∀ e, e ∈ nx G s (W (m + 1) i) → 0 ≤ e → W (m + 2) e = 1) →
    Tr (b_Moves_listFrom_L11 S0 m n W x) (fun _ U => (∀ a, a ≠ m → a ≠ m + 1 → a ≠ m + 2 → U a = V a) ∧ (∀ k, k ≠ 1 → U m k = V m k) ∧ LDC G s m U (U m 1) ∧ 0 < U m 1 ∧ U (m + 1) 0 = st ∧ RP G s m U) := by
  have hmm := hm
  unfold isMv at hmm
  have hq := qPos_le hG
  intro n
  induction n with
  | zero => intro x W h1 h2 h3 _ _ h4; have := h4.2.1; omega
  | succ n ih =>
    intro x W x0 x1 hn f1 f2 hQ hpos hst hRP hcl
    have h200 := hQ.2.1
    have vW : ∀ p, 0 ≤ p → p < qPos G → mvH G s m W p := fun p a b => by
      have := hA p a b
      unfold mvH cdH at *
      rw [f1 (m + 3) (by omega) (by omega) (by omega), f1 (m + 4) (by omega) (by omega) (by omega), f1 (m + 5) (by omega) (by omega) (by omega)]; exact this
    rw [b_Moves_listFrom_L11]
    refine Tr_if (fun c => ?_) (fun c => ?_)
    · refine Tr_ret ⟨f1, f2, ⟨hQ, fun i i0 i1 => ⟨?_, hcl i i0 (by omega)⟩⟩, hpos, hst, hRP⟩
      have := hQ.2.2.1 i i0 i1
      exact vW _ this.1 this.2.1
    rw [if_neg (by omega), FM_3 hm, AM1 hm, gd_in (by omega) (by omega)]
    have hp := hQ.2.2.1 x x0 (by omega)
    refine Tr_bnd (M_enlistNexts hG hs hm ⟨hp.1, hp.2.1⟩ (vW _ hp.1 hp.2.1) hQ) ?_
    rintro y U ⟨u1, u2, u3⟩
    obtain ⟨y1, y2, y3, y4, y5, y6⟩ := u2
    rw [w32_id (x := x + 1) (by omega) (by omega)]
    refine ih (x + 1) U (by omega) (by omega) (by omega) (fun a a1 a2 a3 => by rw [y1 a a1 a2 a3, f1 a a1 a2 a3]) (fun k hk => by rw [y2 k hk, f2 k hk]) u1 (by omega) (by rw [y4 0 hpos]; exact hst) (fun i i0 i1 => ?_) (fun i i0 i1 e he e0 => ?_)
    · by_cases c2 : i < W m 1
      · obtain ⟨j, j0, j1, j2⟩ := hRP i i0 c2
        refine ⟨j, j0, j1, ?_⟩
        rw [y4 i c2, y4 j (by omega)]; exact j2
      · refine ⟨x, x0, by omega, ?_⟩
        rw [y4 x (by omega)]
        exact y6 i (by omega) i1
    · rw [y4 i (by omega)] at he
      by_cases z : i = x
      · rw [z] at he; exact u3 e he e0
      · exact y5 e (hcl i i0 (by omega) e he e0)
theorem M_listFrom {G : GM} {s : SL} {m : Int} {V : ASt} (hG : GOK G) (hs : SOK G s) (hm : isMv m) (hA : MA G s m V) {st : Int} (hst : 0 ≤ st ∧ st < qPos G) :
    Tr (f_Moves_listFrom S0 V m st) (fun _ U => (∀ a, a ≠ m → a ≠ m + 1 → a ≠ m + 2 → U a = V a) ∧ (∀ k, k ≠ 1 → U m k = V m k) ∧ LDC G s m U (U m 1) ∧ 0 < U m 1 ∧ U (m + 1) 0 = st ∧ RP G s m U) := by
  have hmm := hm
  unfold isMv at hmm
  unfold f_Moves_listFrom
  rw [gd_t (OM hm)]
  refine Tr_bnd (M_clearList hm G V) ?_
  rintro y U ⟨u1, u2, u3, u4⟩
  refine Tr_bnd (M_enlist hG hm u1 (p := st) (Or.inr hst)) ?_
  rintro y2 W ⟨w1, w2, w3⟩
  obtain ⟨y1, z2, y3, y4, y5, y6⟩ := w2
  have hl := w1.2.2.2.2 st hst.1 (by have := qPos_le hG; omega)
  have hW : 0 < W m 1 ∧ W (m + 1) 0 = st := by
    rcases hl with q | ⟨-, i, i0, i1, i2⟩
    · have := w3 hst.1; omega
    · have := y6 i (by omega) i1
      have h0 := y6 0 (by omega) (by omega)
      exact ⟨by omega, h0⟩
  refine lf_L11 hG hs hm hA FU 0 W (by omega) w1.1 (by rw [FU_v]; omega) (fun a a1 a2 a3 => by rw [y1 a a1 a2 a3, u3 a a1 a3]) (fun k hk => by rw [z2 k hk, u4 k hk]) w1 hW.1 hW.2 (fun i i0 i1 => ?_) (fun i a b => by omega)
  have e := y6 i (by omega) i1
  have := w1.2.2.2.1 i 0 (by omega) i1 (by omega) hW.1 (by rw [e, hW.2])
  omega
-- ---- rows from their ends back
def KQ (D : Int → Prop) (Q : Int → Int) (n : Int) : Prop := 0 ≤ n ∧ (∀ i, 0 ≤ i → i < n → D (Q i)) ∧ (∀ i j, 0 ≤ i → i < n → 0 ≤ j → j < n → Q i = Q j → i = j)
def KI (m : Int → List Int) (D : Int → Prop) (rl lf Q : Int → Int) (n h : Int) (pr : Int → Int) (p : Int) (sg : Int → Int) : Prop :=
  KQ D Q n ∧ (0 ≤ h ∧ h ≤ n) ∧ (∀ e, pr e = 0 ∨ pr e = 1) ∧ (∀ e, D e → (pr e = 1 ↔ ∃ i, 0 ≤ i ∧ i < h ∧ Q i = e)) ∧ (∀ q, D q → lf q = rem pr (m q) - sg q ∧ 0 ≤ sg q) ∧ (∀ q, D q → (lf q = 0 ↔ ∃ i, 0 ≤ i ∧ i < n ∧ Q i = q)) ∧
  (∀ q, D q → 0 ≤ rl q ∧ rl q ≤ h + 2 ∧ (m q = [] → rl q = 0) ∧ (m q ≠ [] → 1 ≤ rl q ∧ (∀ e, e ∈ m q → 0 ≤ e → (pr e = 1 ∨ (e = p ∧ 0 < sg q)) → rl e + 1 ≤ rl q) ∧ (rl q = 1 ∨ ∃ e, e ∈ m q ∧ 0 ≤ e ∧ (pr e = 1 ∨ (e = p ∧ 0 < sg q)) ∧ rl q = rl e + 1))) ∧
  (∀ i, 0 ≤ i → i < n → rl (Q i) ≤ i + 1)
theorem KQ_put {D : Int → Prop} {Q : Int → Int} {n q : Int} (h : KQ D Q n) (hq : D q) (hne : ∀ i, 0 ≤ i → i < n → Q i ≠ q) : KQ D (upI Q n q) (n + 1) := by
  obtain ⟨h1, h2, h3⟩ := h
  refine ⟨by omega, fun i a b => ?_, fun i j a b a' b' e => ?_⟩
  · by_cases c : i = n
    · rw [c, upI_s]; exact hq
    · rw [upI_n _ _ c]; exact h2 i a (by omega)
  · by_cases c : i = n
    · by_cases c' : j = n
      · omega
      · rw [c, upI_s, upI_n _ _ c'] at e
        exact absurd e.symm (hne j a' (by omega))
    · by_cases c' : j = n
      · rw [c', upI_s, upI_n _ _ c] at e
        exact absurd e (hne i a (by omega))
      · rw [upI_n _ _ c, upI_n _ _ c'] at e
        exact h3 i j a (by omega) a' (by omega) e
theorem KI_edge {m : Int → List Int} {D : Int → Prop} {rl lf Q : Int → Int} {n h : Int} {pr : Int → Int} {p : Int} {sg : Int → Int} {q : Int} (hc : cl m D) (hB : KI m D rl lf Q n h pr p sg) (hq : D q) (hh : h < n) (hp : Q h = p) (hmem : p ∈ m q) (hp0 : 0 ≤ p) (hsg : sg q + 1 ≤ cn p (m q)) :
    (∀ i, 0 ≤ i → i < n → Q i ≠ q) ∧ rl p ≤ h + 1 ∧ 0 ≤ rl p ∧
    (lf q - 1 ≠ 0 → KI m D (upI rl q (if rl q < rl p + 1 then rl p + 1 else rl q)) (upI lf q (lf q - 1)) Q n h pr p (upI sg q (sg q + 1))) ∧
    (lf q - 1 = 0 → KI m D (upI rl q (if rl q < rl p + 1 then rl p + 1 else rl q)) (upI lf q (lf q - 1)) (upI Q n q) (n + 1) h pr p (upI sg q (sg q + 1))) := by
  obtain ⟨b1, b2, b4, b5, b6, b8, b7, b9⟩ := hB
  have hQh := b1.2.1 h b2.1 hh
  rw [hp] at hQh
  have hprp : pr p = 0 := by
    rcases b4 p with e | e
    · exact e
    · obtain ⟨i, i0, i1, i2⟩ := (b5 p hQh).mp e
      have := b1.2.2 i h i0 (by omega) b2.1 hh (by rw [i2, hp])
      omega
  have hup : ∀ e, upI pr p 1 e = 0 ∨ upI pr p 1 e = 1 := fun e => by
    by_cases ce : e = p
    · rw [ce, upI_s]; exact Or.inr rfl
    · rw [upI_n _ _ ce]; exact b4 e
  have hr := rem_up hp0 hprp (m q)
  have hr3 := (rem_r hup (m q)).1
  have hlq := b6 q hq
  have hlf1 : 1 ≤ lf q := by omega
  have hnq : ∀ i, 0 ≤ i → i < n → Q i ≠ q := fun i i0 i1 e => by have := (b8 q hq).mpr ⟨i, i0, i1, e⟩; omega
  have hmq : m q ≠ [] := fun e => by rw [e] at hmem; cases hmem
  have hpq : p ≠ q := fun e => hnq h b2.1 hh (by rw [hp, e])
  have hrp := b9 h b2.1 hh
  rw [hp] at hrp
  have hrp0 := (b7 p hQh).1
  have hB7 := (b7 q hq)
  have hmax : rl q ≤ (if rl q < rl p + 1 then rl p + 1 else rl q) ∧ rl p + 1 ≤ (if rl q < rl p + 1 then rl p + 1 else rl q) ∧ ((if rl q < rl p + 1 then rl p + 1 else rl q) = rl p + 1 ∨ (if rl q < rl p + 1 then rl p + 1 else rl q) = rl q) := by
    by_cases c : rl q < rl p + 1
    · rw [if_pos c]; omega
    · rw [if_neg c]; omega
  generalize (if rl q < rl p + 1 then rl p + 1 else rl q) = y at *
  -- those of which something is said are in the queue
  have key : ∀ e, D e → (pr e = 1 ∨ e = p) → upI rl q y e = rl e := fun e de he => by
    refine upI_n _ _ (fun z => ?_)
    rcases he with he | he
    · obtain ⟨i, i0, i1, i2⟩ := (b5 e de).mp he
      exact hnq i i0 (by omega) (by rw [i2, z])
    · exact hpq (by rw [← he, z])
  have hI : ∀ n' Q', KQ D Q' n' → n ≤ n' → (∀ i, i < n → Q' i = Q i) → (∀ q', D q' → (upI lf q (lf q - 1) q' = 0 ↔ ∃ i, 0 ≤ i ∧ i < n' ∧ Q' i = q')) → (∀ i, n ≤ i → i < n' → Q' i = q) → KI m D (upI rl q y) (upI lf q (lf q - 1)) Q' n' h pr p (upI sg q (sg q + 1)) := by
    intro n' Q' k1 k2 k3 k4 k5
    refine ⟨k1, ⟨b2.1, by omega⟩, b4, fun e de => ?_, fun q' d => ?_, k4, fun q' d => ?_, fun i i0 i1 => ?_⟩
    · rw [b5 e de]
      constructor
      · rintro ⟨i, i0, i1, i2⟩
        exact ⟨i, i0, i1, by rw [k3 i (by omega)]; exact i2⟩
      · rintro ⟨i, i0, i1, i2⟩
        rw [k3 i (by omega)] at i2
        exact ⟨i, i0, i1, i2⟩
    · by_cases c : q' = q
      · rw [c, upI_s, upI_s]; omega
      · rw [upI_n _ _ c, upI_n _ _ c]; exact b6 q' d
    · by_cases c : q' = q
      · subst c
        rw [upI_s, upI_s]
        refine ⟨by omega, by omega, fun z => absurd z hmq, fun _ => ?_⟩
        obtain ⟨x1, x2, x3⟩ := hB7.2.2.2 hmq
        refine ⟨by omega, fun e he e0 hz => ?_, ?_⟩
        · have hz' : pr e = 1 ∨ e = p := hz.imp_right And.left
          rw [key e (hc q' hq e he e0) hz']
          rcases hz' with z | z
          · have := x2 e he e0 (Or.inl z); omega
          · rw [z]; omega
        · rcases hmax.2.2 with z | z
          · refine Or.inr ⟨p, hmem, hp0, Or.inr ⟨rfl, by omega⟩, ?_⟩
            rw [key p hQh (Or.inr rfl)]; exact z
          · rcases x3 with x3 | ⟨e, e1, e2, e3, e4⟩
            · exact Or.inl (by omega)
            · have hz' : pr e = 1 ∨ e = p := e3.imp_right And.left
              refine Or.inr ⟨e, e1, e2, ?_, ?_⟩
              · rcases e3 with z | z
                · exact Or.inl z
                · exact Or.inr ⟨z.1, by omega⟩
              · rw [key e (hc q' hq e e1 e2) hz']; omega
      · rw [upI_n _ _ c, upI_n _ _ c]
        obtain ⟨x0, x1, x2, x3⟩ := b7 q' d
        refine ⟨x0, x1, x2, fun hm' => ?_⟩
        obtain ⟨y1, y2, y3⟩ := x3 hm'
        refine ⟨y1, fun e he e0 hz => ?_, ?_⟩
        · have hz' : pr e = 1 ∨ e = p := hz.imp_right And.left
          rw [key e (hc q' d e he e0) hz']
          exact y2 e he e0 hz
        · rcases y3 with y3 | ⟨e, e1, e2, e3, e4⟩
          · exact Or.inl y3
          · have hz' : pr e = 1 ∨ e = p := e3.imp_right And.left
            exact Or.inr ⟨e, e1, e2, e3, by rw [key e (hc q' d e e1 e2) hz']; exact e4⟩
    · by_cases c : i < n
      · rw [k3 i c, upI_n _ _ (hnq i i0 c)]; exact b9 i i0 c
      · rw [k5 i (by omega) i1, upI_s]; omega
  refine ⟨hnq, hrp, hrp0, fun hl => hI n Q b1 (Int.le_refl _) (fun _ _ => rfl) (fun q' d => ?_) (fun i a b => by omega), fun hl => hI (n + 1) (upI Q n q) (KQ_put b1 hq hnq) (by omega) (fun i hi => upI_n _ _ (by omega)) (fun q' d => ?_) (fun i a b => by rw [show i = n by omega, upI_s])⟩
  · by_cases c : q' = q
    · rw [c, upI_s]
      exact ⟨fun z => absurd z hl, fun ⟨i, i0, i1, i2⟩ => absurd i2 (hnq i i0 i1)⟩
    · rw [upI_n _ _ c]; exact b8 q' d
  · by_cases c : q' = q
    · rw [c, upI_s]
      exact ⟨fun _ => ⟨n, b1.1, by omega, upI_s _ _ _⟩, fun _ => hl⟩
    · rw [upI_n _ _ c, b8 q' d]
      constructor
      · rintro ⟨i, i0, i1, i2⟩
        exact ⟨i, i0, by omega, by rw [upI_n _ _ (by omega)]; exact i2⟩
      · rintro ⟨i, i0, i1, i2⟩
        by_cases ci : i = n
        · rw [ci, upI_s] at i2; exact absurd i2.symm c
        · rw [upI_n _ _ ci] at i2
          exact ⟨i, i0, by omega, i2⟩
theorem cn_pos {e : Int} : ∀ {l : List Int}, e ∈ l → 0 < cn e l := by
  intro l
  induction l with
  | nil => intro h; cases h
  | cons a l ih =>
    intro h
    rw [cn]
    have := (cn_r e l).1
    by_cases ca : a = e
    · rw [if_pos ca]; omega
    · rw [if_neg ca]
      rw [List.mem_cons] at h
      rcases h with h | h
      · exact absurd h.symm ca
      · have := ih h; omega
theorem KI_next {m : Int → List Int} {D : Int → Prop} {rl lf Q : Int → Int} {n h : Int} {pr : Int → Int} {p : Int} {sg : Int → Int} (hB : KI m D rl lf Q n h pr p sg) (hh : h < n) (hp : Q h = p) (hp0 : 0 ≤ p) (hs : ∀ q, D q → sg q = cn p (m q)) (p' : Int) : KI m D rl lf Q n (h + 1) (upI pr p 1) p' (fun _ => 0) := by
  obtain ⟨b1, b2, b4, b5, b6, b8, b7, b9⟩ := hB
  have hQh := b1.2.1 h b2.1 hh
  rw [hp] at hQh
  have hprp : pr p = 0 := by
    rcases b4 p with e | e
    · exact e
    · obtain ⟨i, i0, i1, i2⟩ := (b5 p hQh).mp e
      have := b1.2.2 i h i0 (by omega) b2.1 hh (by rw [i2, hp])
      omega
  have hconv : ∀ q e, D q → e ∈ m q → (upI pr p 1 e = 1 ∨ (e = p' ∧ 0 < (0 : Int)) ↔ (pr e = 1 ∨ (e = p ∧ 0 < sg q))) := fun q e d he => by
    by_cases ce : e = p
    · subst ce
      rw [upI_s]
      have := cn_pos he
      have := hs q d
      exact ⟨fun _ => Or.inr ⟨rfl, by omega⟩, fun _ => Or.inl rfl⟩
    · rw [upI_n _ _ ce]
      exact ⟨fun z => z.imp_right (fun w => absurd w.2 (by decide)), fun z => z.imp_right (fun w => absurd w.1 ce)⟩
  refine ⟨b1, by omega, fun e => ?_, fun e de => ?_, fun q d => ?_, b8, fun q d => ?_, b9⟩
  · by_cases ce : e = p
    · rw [ce, upI_s]; exact Or.inr rfl
    · rw [upI_n _ _ ce]; exact b4 e
  · by_cases ce : e = p
    · rw [ce, upI_s]
      exact ⟨fun _ => ⟨h, b2.1, by omega, hp⟩, fun _ => rfl⟩
    · rw [upI_n _ _ ce, b5 e de]
      constructor
      · rintro ⟨i, i0, i1, i2⟩
        exact ⟨i, i0, by omega, i2⟩
      · rintro ⟨i, i0, i1, i2⟩
        refine ⟨i, i0, ?_, i2⟩
        by_cases ci : i = h
        · rw [ci, hp] at i2; exact absurd i2.symm ce
        · omega
  · have := b6 q d
    have h1 := hs q d
    rw [rem_up hp0 hprp]
    dsimp only
    omega
  · obtain ⟨x0, x1, x2, x3⟩ := b7 q d
    refine ⟨x0, by omega, x2, fun hm' => ?_⟩
    obtain ⟨y1, y2, y3⟩ := x3 hm'
    refine ⟨y1, fun e he e0 hz => y2 e he e0 ((hconv q e d he).mp hz), ?_⟩
    rcases y3 with y3 | ⟨e, e1, e2, e3, e4⟩
    · exact Or.inl y3
    · exact Or.inr ⟨e, e1, e2, (hconv q e d e1).mpr e3, e4⟩
theorem KI_end {m : Int → List Int} {D : Int → Prop} {rl lf Q : Int → Int} {n : Int} {pr : Int → Int} {p : Int} (hc : cl m D) (hB : KI m D rl lf Q n n pr p (fun _ => 0)) : LGs m D (fun q => if lf q = 0 then rl q else -1) := by
  obtain ⟨b1, b2, b4, b5, b6, b8, b7, b9⟩ := hB
  intro q d
  dsimp only
  have h6 := b6 q d
  dsimp only at h6
  have hz : ∀ e, D e → (lf e = 0 ↔ pr e = 1) := fun e de => by rw [b8 e de, b5 e de]
  by_cases c : lf q = 0
  · rw [if_pos c]
    refine Or.inr ?_
    have hall := rem_0 b4 (m q) (by omega)
    have hall2 : ∀ e, e ∈ m q → 0 ≤ e → pr e = 1 ∧ lf e = 0 := fun e he e0 => ⟨hall e he e0, (hz e (hc q d e he e0)).mpr (hall e he e0)⟩
    obtain ⟨x0, x1, x2, x3⟩ := b7 q d
    refine ⟨x0, fun e he => ⟨fun e0 => ?_, fun e0 => ?_⟩, x2, fun hm => ?_⟩
    · have h1 := hall2 e he e0
      rw [if_pos h1.2]
      have hm : m q ≠ [] := fun z => by rw [z] at he; cases he
      have := (x3 hm).2.1 e he e0 (Or.inl h1.1)
      have := (b7 e (hc q d e he e0)).1
      omega
    · have hm : m q ≠ [] := fun z => by rw [z] at he; cases he
      exact (x3 hm).1
    · obtain ⟨y1, y2, y3⟩ := x3 hm
      rcases y3 with y3 | ⟨e, e1, e2, e3, e4⟩
      · obtain ⟨e, he⟩ := List.exists_mem_of_ne_nil _ hm
        refine ⟨e, he, ?_⟩
        by_cases e0 : e < 0
        · exact Or.inl ⟨e0, y3⟩
        · have h1 := hall2 e he (by omega)
          rw [if_pos h1.2]
          have := y2 e he (by omega) (Or.inl h1.1)
          have := (b7 e (hc q d e he (by omega))).1
          exact Or.inr ⟨by omega, by omega⟩
      · refine ⟨e, e1, Or.inr ⟨e2, ?_⟩⟩
        rw [if_pos (hall2 e e1 e2).2]; exact e4
  · rw [if_neg c]
    refine Or.inl ⟨rfl, ?_⟩
    have := (rem_r b4 (m q)).1
    obtain ⟨e, e1, e2, e3⟩ := rem_1 b4 (m q) (by omega)
    refine ⟨e, e1, e2, ?_⟩
    rw [if_neg (fun z => by have := (hz e (hc q d e e1 e2)).mp z; omega)]
