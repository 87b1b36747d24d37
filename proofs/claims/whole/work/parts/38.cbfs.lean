/-! from the ends back: the argument, without the machine -/
def rem (pr : Int → Int) : List Int → Int
  | [] => 0
  | e :: l => (if 0 ≤ e then 1 - pr e else 0) + rem pr l
theorem rem_r {pr : Int → Int} (h : ∀ e, pr e = 0 ∨ pr e = 1) : ∀ l : List Int, 0 ≤ rem pr l ∧ rem pr l ≤ l.length := by
  intro l
  induction l with
  | nil => exact ⟨Int.le_refl _, Int.le_refl _⟩
  | cons e l ih =>
    rw [rem, List.length_cons]
    have := h e
    by_cases c : 0 ≤ e
    · rw [if_pos c]; omega
    · rw [if_neg c]; omega
theorem rem_up {pr : Int → Int} {p : Int} (hp : 0 ≤ p) (h0 : pr p = 0) : ∀ l : List Int, rem (upI pr p 1) l = rem pr l - cn p l := by
  intro l
  induction l with
  | nil => rfl
  | cons e l ih =>
    rw [rem, rem, cn, ih]
    by_cases c : e = p
    · subst c; rw [upI_s, if_pos hp, if_pos hp, if_pos rfl]; omega
    · rw [upI_n _ _ c, if_neg c]; omega
theorem rem_0 {pr : Int → Int} (h : ∀ e, pr e = 0 ∨ pr e = 1) : ∀ l : List Int, rem pr l = 0 → ∀ e, e ∈ l → 0 ≤ e → pr e = 1 := by
  intro l
  induction l with
  | nil => intro _ e he; cases he
  | cons a l ih =>
    intro hr e he e0
    rw [rem] at hr
    have h1 := (rem_r h l).1
    have h2 := h a
    rw [List.mem_cons] at he
    by_cases c : 0 ≤ a
    · rw [if_pos c] at hr
      rcases he with he | he
      · rw [he]; omega
      · exact ih (by omega) e he e0
    · rw [if_neg c] at hr
      rcases he with he | he
      · omega
      · exact ih (by omega) e he e0
theorem rem_1 {pr : Int → Int} (h : ∀ e, pr e = 0 ∨ pr e = 1) : ∀ l : List Int, 0 < rem pr l → ∃ e, e ∈ l ∧ 0 ≤ e ∧ pr e = 0 := by
  intro l
  induction l with
  | nil => intro h; rw [rem] at h; omega
  | cons a l ih =>
    intro hr
    rw [rem] at hr
    by_cases c : 0 ≤ a
    · by_cases d : pr a = 0
      · exact ⟨a, List.mem_cons_self, c, d⟩
      · have := h a
        rw [if_pos c] at hr
        obtain ⟨e, e1, e2⟩ := ih (by omega)
        exact ⟨e, List.mem_cons_of_mem _ e1, e2⟩
    · rw [if_neg c] at hr
      obtain ⟨e, e1, e2⟩ := ih (by omega)
      exact ⟨e, List.mem_cons_of_mem _ e1, e2⟩
/-- what is settled of q, w and t -/
def won1 (m : Int → List Int) (w t : Int → Int) (q : Int) : Prop := w q = 1 ∧ 1 ≤ t q ∧ (∃ e, e ∈ m q ∧ ((e = -1 ∧ t q = 1) ∨ (0 ≤ e ∧ w e = -1 ∧ t q = t e + 1))) ∧ (∀ e, e ∈ m q → (e = -1 → t q ≤ 1) ∧ (0 ≤ e → w e = -1 → t q ≤ t e + 1))
def lost1 (m : Int → List Int) (w t : Int → Int) (q : Int) : Prop := w q = -1 ∧ 1 ≤ t q ∧ (∃ e, e ∈ m q ∧ ((e < 0 ∧ t q = 1) ∨ (0 ≤ e ∧ t q = t e + 1))) ∧ (∀ e, e ∈ m q → e ≠ -1 ∧ (0 ≤ e → w e = 1 ∧ t e + 1 ≤ t q))
/-- the queue: its entries, each once, all that are settled, steps in order -/
def BQ (D : Int → Prop) (w t Q : Int → Int) (n : Int) : Prop :=
  0 ≤ n ∧ (∀ i, 0 ≤ i → i < n → D (Q i) ∧ w (Q i) ≠ 0 ∧ 0 ≤ t (Q i)) ∧ (∀ i j, 0 ≤ i → i < n → 0 ≤ j → j < n → Q i = Q j → i = j) ∧ (∀ q, D q → w q ≠ 0 → ∃ i, 0 ≤ i ∧ i < n ∧ Q i = q) ∧ (∀ i j, 0 ≤ i → i ≤ j → j < n → t (Q i) ≤ t (Q j))
def BI (m : Int → List Int) (u : Int) (D : Int → Prop) (w t lf Q : Int → Int) (n h : Int) (pr : Int → Int) (p : Int) (sg : Int → Int) : Prop :=
  BQ D w t Q n ∧ (0 ≤ h ∧ h ≤ n) ∧ (h < n → ∀ j, 0 ≤ j → j < n → t (Q j) ≤ t (Q h) + 1) ∧ (∀ e, pr e = 0 ∨ pr e = 1) ∧ (∀ e, D e → (pr e = 1 ↔ ∃ i, 0 ≤ i ∧ i < h ∧ Q i = e)) ∧
  (∀ q, D q → lf q = rem pr (m q) - sg q ∧ 0 ≤ sg q) ∧
  (∀ q, D q → (m q = [] → w q = u ∧ (u ≠ 0 → t q = 0)) ∧ (m q ≠ [] → won1 m w t q ∨ lost1 m w t q ∨ (w q = 0 ∧ (∀ e, e ∈ m q → e ≠ -1 ∧ (0 ≤ e → (pr e = 1 ∨ (e = p ∧ 0 < sg q)) → w e = 1)) ∧ 0 < lf q)))
theorem BQ_put {D : Int → Prop} {w t Q : Int → Int} {n q x y : Int} (h : BQ D w t Q n) (hq : D q) (h0 : w q = 0) (hx : x ≠ 0) (hy : 0 ≤ y) (hm : ∀ j, 0 ≤ j → j < n → t (Q j) ≤ y) : BQ D (upI w q x) (upI t q y) (upI Q n q) (n + 1) := by
  obtain ⟨h1, h2, h3, h4, h5⟩ := h
  have hne : ∀ i, 0 ≤ i → i < n → Q i ≠ q := fun i a b e => by have := (h2 i a b).2.1; rw [e] at this; exact this h0
  refine ⟨by omega, fun i a b => ?_, fun i j a b a' b' e => ?_, fun q' d hw => ?_, fun i j a b c => ?_⟩
  · by_cases c : i = n
    · rw [c, upI_s, upI_s, upI_s]; exact ⟨hq, hx, hy⟩
    · rw [upI_n _ _ c, upI_n _ _ (hne i a (by omega)), upI_n _ _ (hne i a (by omega))]; exact h2 i a (by omega)
  · by_cases c : i = n
    · by_cases c' : j = n
      · omega
      · rw [c, upI_s, upI_n _ _ c'] at e
        exact absurd e.symm (hne j a' (by omega))
    · by_cases c' : j = n
      · rw [c', upI_s, upI_n _ _ c] at e
        exact absurd e (hne i a (by omega))
      · rw [upI_n _ _ c, upI_n _ _ c'] at e
        exact h3 i j a (by omega) a' (by omega) e
  · by_cases c : q' = q
    · exact ⟨n, h1, by omega, by rw [upI_s, c]⟩
    · rw [upI_n _ _ c] at hw
      obtain ⟨i, i0, i1, i2⟩ := h4 q' d hw
      exact ⟨i, i0, by omega, by rw [upI_n _ _ (by omega), i2]⟩
  · by_cases c1 : j = n
    · by_cases c2 : i = n
      · rw [c1, c2]; exact Int.le_refl _
      · rw [c1, upI_s (f := Q), upI_s, upI_n _ _ c2, upI_n _ _ (hne i a (by omega))]
        exact hm i a (by omega)
    · have c2 : i ≠ n := by omega
      rw [upI_n _ _ c1, upI_n _ _ c2, upI_n _ _ (hne i a (by omega)), upI_n _ _ (hne j (by omega) (by omega))]
      exact h5 i j a b (by omega)
/-- an edge from q to p is looked at, and q is settled by it -/
theorem BI_settle {m : Int → List Int} {u : Int} {D : Int → Prop} {w t lf Q : Int → Int} {n h : Int} {pr : Int → Int} {p : Int} {sg : Int → Int} {q x : Int} (hc : cl m D) (hB : BI m u D w t lf Q n h pr p sg) (hq : D q) (h0 : w q = 0) (hh : h < n) (hp : Q h = p) (hmem : p ∈ m q) (hp0 : 0 ≤ p)
    (hsg : sg q + 1 ≤ cn p (m q)) (hx : (x = 1 ∧ w p = -1) ∨ (x = -1 ∧ w p = 1 ∧ lf q - 1 = 0)) : BI m u D (upI w q x) (upI t q (t p + 1)) (upI lf q (lf q - 1)) (upI Q n q) (n + 1) h pr p (upI sg q (sg q + 1)) := by
  obtain ⟨b1, b2, b3, b4, b5, b6, b7⟩ := hB
  have hQh := b1.2.1 h b2.1 hh
  rw [hp] at hQh
  have hpq : p ≠ q := fun e => hQh.2.1 (by rw [e]; exact h0)
  have hmq : m q ≠ [] := fun e => by rw [e] at hmem; cases hmem
  have hz : ∀ e, e ∈ m q → e ≠ -1 ∧ (0 ≤ e → (pr e = 1 ∨ (e = p ∧ 0 < sg q)) → w e = 1) := by
    rcases (b7 q hq).2 hmq with a | a | a
    · exact absurd a.1 (by omega)
    · exact absurd a.1 (by omega)
    · exact a.2.1
  have hprp : pr p = 0 := by
    rcases b4 p with e | e
    · exact e
    · obtain ⟨i, i0, i1, i2⟩ := (b5 p hQh.1).mp e
      have := b1.2.2.1 i h i0 (by omega) b2.1 hh (by rw [i2, hp])
      omega
  have hle : ∀ j, 0 ≤ j → j < n → t (Q j) ≤ t p + 1 := fun j a c => by have := b3 hh j a c; rw [hp] at this; exact this
  have hset : ∀ e, D e → w e ≠ 0 → t e ≤ t p + 1 := fun e de hw => by
    obtain ⟨i, i0, i1, i2⟩ := b1.2.2.2.1 e de hw
    rw [← i2]; exact hle i i0 i1
  have hx0 : x ≠ 0 := by rcases hx with a | a <;> omega
  have hne : ∀ i, 0 ≤ i → i < n → Q i ≠ q := fun i a b e => by have := (b1.2.1 i a b).2.1; rw [e] at this; exact this h0
  refine ⟨BQ_put b1 hq h0 hx0 (by omega) hle, ⟨b2.1, by omega⟩, fun _ j a c => ?_, b4, fun e de => ?_, fun q' d => ?_, fun q' d => ⟨fun hm' => ?_, fun hm' => ?_⟩⟩
  · rw [upI_n Q q (show h ≠ n by omega), hp, upI_n t (t p + 1) hpq]
    by_cases c1 : j = n
    · rw [c1, upI_s, upI_s]; exact Int.le_refl _
    · rw [upI_n _ _ c1, upI_n _ _ (hne j a (by omega))]; exact hle j a (by omega)
  · rw [b5 e de]
    constructor
    · rintro ⟨i, i0, i1, i2⟩
      exact ⟨i, i0, i1, by rw [upI_n _ _ (by omega)]; exact i2⟩
    · rintro ⟨i, i0, i1, i2⟩
      rw [upI_n _ _ (by omega)] at i2
      exact ⟨i, i0, i1, i2⟩
  · have := b6 q' d
    by_cases c : q' = q
    · subst c; rw [upI_s, upI_s]; omega
    · rw [upI_n _ _ c, upI_n _ _ c]; exact this
  · have c : q' ≠ q := fun e => hmq (by rw [← e]; exact hm')
    rw [upI_n _ _ c, upI_n _ _ c]; exact (b7 q' d).1 hm'
  · by_cases c : q' = q
    · subst c
      rcases hx with ⟨x1, x2⟩ | ⟨x1, x2, x3⟩
      · refine Or.inl ⟨by rw [upI_s]; exact x1, by rw [upI_s]; omega, ⟨p, hmem, Or.inr ⟨hp0, by rw [upI_n _ _ hpq]; exact x2, by rw [upI_s, upI_n _ _ hpq]⟩⟩, fun e he => ⟨fun z => absurd z (hz e he).1, fun e0 hw => ?_⟩⟩
        by_cases ce : e = q'
        · rw [ce, upI_s] at hw; omega
        · rw [upI_n _ _ ce] at hw
          rw [upI_s, upI_n _ _ ce]
          have de : D e := hc q' hq e he e0
          obtain ⟨i, i0, i1, i2⟩ := b1.2.2.2.1 e de (by omega)
          by_cases hi : i < h
          · have := (hz e he).2 e0 (Or.inl ((b5 e de).mpr ⟨i, i0, hi, i2⟩))
            omega
          · have := b1.2.2.2.2 h i b2.1 (by omega) i1
            rw [hp, i2] at this
            omega
      · have hr := rem_up hp0 hprp (m q')
        have hr2 := b6 q' hq
        have hup : ∀ e, upI pr p 1 e = 0 ∨ upI pr p 1 e = 1 := fun e => by
          by_cases ce : e = p
          · rw [ce, upI_s]; exact Or.inr rfl
          · rw [upI_n _ _ ce]; exact b4 e
        have hr3 := (rem_r hup (m q')).1
        have hall := rem_0 hup (m q') (by omega)
        refine Or.inr (Or.inl ⟨by rw [upI_s]; exact x1, by rw [upI_s]; omega, ⟨p, hmem, Or.inr ⟨hp0, by rw [upI_s, upI_n _ _ hpq]⟩⟩, fun e he => ⟨(hz e he).1, fun e0 => ?_⟩⟩)
        have de : D e := hc q' hq e he e0
        have h1 := hall e he e0
        by_cases ce : e = p
        · subst ce
          rw [upI_n _ _ hpq, upI_n _ _ hpq, upI_s]; exact ⟨x2, Int.le_refl _⟩
        · rw [upI_n _ _ ce] at h1
          have we := (hz e he).2 e0 (Or.inl h1)
          have ceq : e ≠ q' := fun y => by rw [y] at we; omega
          rw [upI_n _ _ ceq, upI_n _ _ ceq, upI_s]
          obtain ⟨i, i0, i1, i2⟩ := (b5 e de).mp h1
          have := b1.2.2.2.2 i h i0 (by omega) hh
          rw [hp, i2] at this
          exact ⟨we, by omega⟩
    · have key : ∀ e, w e ≠ 0 → upI w q x e = w e ∧ upI t q (t p + 1) e = t e := fun e he => by
        have ce : e ≠ q := fun y => by rw [y] at he; exact he h0
        rw [upI_n _ _ ce, upI_n _ _ ce]; exact ⟨rfl, rfl⟩
      rcases (b7 q' d).2 hm' with ⟨a1, a2, ⟨e, he, a3⟩, a4⟩ | ⟨a1, a2, ⟨e, he, a3⟩, a4⟩ | ⟨a1, a2, a3⟩
      · refine Or.inl ⟨by rw [upI_n _ _ c]; exact a1, by rw [upI_n _ _ c]; exact a2, ⟨e, he, ?_⟩, fun e' he' => ⟨by rw [upI_n _ _ c]; exact (a4 e' he').1, fun e0 hw => ?_⟩⟩
        · rw [upI_n _ _ c]
          rcases a3 with a3 | a3
          · exact Or.inl a3
          · have := key e (by omega)
            rw [this.1, this.2]; exact Or.inr a3
        · rw [upI_n _ _ c]
          by_cases ce : e' = q
          · rw [ce, upI_s]
            have := hset q' d (by omega)
            omega
          · rw [upI_n _ _ ce] at hw ⊢
            exact (a4 e' he').2 e0 hw
      · refine Or.inr (Or.inl ⟨by rw [upI_n _ _ c]; exact a1, by rw [upI_n _ _ c]; exact a2, ⟨e, he, ?_⟩, fun e' he' => ⟨(a4 e' he').1, fun e0 => ?_⟩⟩)
        · rw [upI_n _ _ c]
          rcases a3 with a3 | a3
          · exact Or.inl a3
          · have := key e (by have := (a4 e he).2 a3.1; omega)
            rw [this.2]; exact Or.inr a3
        · have h1 := (a4 e' he').2 e0
          have := key e' (by omega)
          rw [this.1, this.2, upI_n _ _ c]; exact h1
      · refine Or.inr (Or.inr ⟨by rw [upI_n _ _ c]; exact a1, fun e he => ⟨(a2 e he).1, fun e0 hh' => ?_⟩, by rw [upI_n _ _ c]; exact a3⟩)
        rw [upI_n _ _ c] at hh'
        have h1 := (a2 e he).2 e0 hh'
        rw [(key e (by omega)).1]; exact h1
/-- an edge from q to p is looked at, and nothing is settled by it -/
theorem BI_pass {m : Int → List Int} {u : Int} {D : Int → Prop} {w t lf Q : Int → Int} {n h : Int} {pr : Int → Int} {p : Int} {sg : Int → Int} {q : Int} (hB : BI m u D w t lf Q n h pr p sg)
    (hx : w q ≠ 0 ∨ (w p = 1 ∧ lf q - 1 ≠ 0)) : BI m u D w t (upI lf q (lf q - 1)) Q n h pr p (upI sg q (sg q + 1)) := by
  obtain ⟨b1, b2, b3, b4, b5, b6, b7⟩ := hB
  refine ⟨b1, b2, b3, b4, b5, fun q' d => ?_, fun q' d => ⟨(b7 q' d).1, fun hm' => ?_⟩⟩
  · have := b6 q' d
    by_cases c : q' = q
    · subst c; rw [upI_s, upI_s]; omega
    · rw [upI_n _ _ c, upI_n _ _ c]; exact this
  · rcases (b7 q' d).2 hm' with a | a | ⟨a1, a2, a3⟩
    · exact Or.inl a
    · exact Or.inr (Or.inl a)
    · refine Or.inr (Or.inr ⟨a1, fun e he => ⟨(a2 e he).1, fun e0 hh => ?_⟩, ?_⟩)
      · by_cases c : q' = q
        · subst c
          rcases hx with hx | hx
          · exact absurd a1 hx
          · rcases hh with hh | hh
            · exact (a2 e he).2 e0 (Or.inl hh)
            · rw [hh.1]; exact hx.1
        · rw [upI_n _ _ c] at hh
          exact (a2 e he).2 e0 hh
      · by_cases c : q' = q
        · subst c
          rcases hx with hx | hx
          · exact absurd a1 hx
          · rw [upI_s]; omega
        · rw [upI_n _ _ c]; exact a3
/-- all edges to p have been looked at -/
theorem BI_next {m : Int → List Int} {u : Int} {D : Int → Prop} {w t lf Q : Int → Int} {n h : Int} {pr : Int → Int} {p : Int} {sg : Int → Int} (hB : BI m u D w t lf Q n h pr p sg) (hh : h < n) (hp : Q h = p) (hp0 : 0 ≤ p) (hs : ∀ q, D q → sg q = cn p (m q)) (p' : Int) : BI m u D w t lf Q n (h + 1) (upI pr p 1) p' (fun _ => 0) := by
  obtain ⟨b1, b2, b3, b4, b5, b6, b7⟩ := hB
  have hQh := b1.2.1 h b2.1 hh
  rw [hp] at hQh
  have hprp : pr p = 0 := by
    rcases b4 p with e | e
    · exact e
    · obtain ⟨i, i0, i1, i2⟩ := (b5 p hQh.1).mp e
      have := b1.2.2.1 i h i0 (by omega) b2.1 hh (by rw [i2, hp])
      omega
  refine ⟨b1, by omega, fun hn j a c => ?_, fun e => ?_, fun e de => ?_, fun q d => ?_, fun q d => ⟨(b7 q d).1, fun hm => ?_⟩⟩
  · have h1 := b3 hh j a c
    have h2 := b1.2.2.2.2 h (h + 1) b2.1 (by omega) hn
    omega
  · by_cases ce : e = p
    · rw [ce, upI_s]; exact Or.inr rfl
    · rw [upI_n _ _ ce]; exact b4 e
  · by_cases ce : e = p
    · rw [ce, upI_s]
      exact ⟨fun _ => ⟨h, b2.1, by omega, hp⟩, fun _ => rfl⟩
    · rw [upI_n _ _ ce, b5 e de]
      constructor
      · rintro ⟨i, i0, i1, i2⟩
        exact ⟨i, i0, by omega, i2⟩
      · rintro ⟨i, i0, i1, i2⟩
        refine ⟨i, i0, ?_, i2⟩
        by_cases ci : i = h
        · rw [ci, hp] at i2; exact absurd i2.symm ce
        · omega
  · have := b6 q d
    have h1 := hs q d
    rw [rem_up hp0 hprp]
    dsimp only
    omega
  · rcases (b7 q d).2 hm with a | a | ⟨a1, a2, a3⟩
    · exact Or.inl a
    · exact Or.inr (Or.inl a)
    · refine Or.inr (Or.inr ⟨a1, fun e he => ⟨(a2 e he).1, fun e0 hx => ?_⟩, a3⟩)
      rcases hx with hx | hx
      · by_cases ce : e = p
        · subst ce
          refine (a2 e he).2 e0 (Or.inr ⟨rfl, ?_⟩)
          rw [hs q d]
          have : ∀ l : List Int, e ∈ l → 0 < cn e l := by
            intro l
            induction l with
            | nil => intro h; cases h
            | cons a l ih =>
              intro h
              rw [cn]
              have := (cn_r e l).1
              by_cases ca : a = e
              · rw [if_pos ca]; omega
              · rw [if_neg ca]
                rw [List.mem_cons] at h
                rcases h with h | h
                · exact absurd h.symm ca
                · have := ih h; omega
          exact this _ he
        · rw [upI_n _ _ ce] at hx
          exact (a2 e he).2 e0 (Or.inl hx)
      · have := hx.2
        dsimp only at this
        omega
theorem BI_end {m : Int → List Int} {u : Int} {D : Int → Prop} {w t lf Q : Int → Int} {n : Int} {pr : Int → Int} {p : Int} (hc : cl m D) (hB : BI m u D w t lf Q n n pr p (fun _ => 0)) : Sol m u D w (fun q => if w q = 0 then -1 else t q) := by
  obtain ⟨b1, b2, b3, b4, b5, b6, b7⟩ := hB
  intro q d
  refine ⟨fun hm => ?_, fun hm => ?_⟩
  · have := (b7 q d).1 hm
    refine ⟨this.1, ?_⟩
    dsimp only
    rw [this.1]
    by_cases c : u = 0
    · rw [if_pos c, if_pos c]
    · rw [if_neg c, if_neg c]; exact this.2 c
  · dsimp only
    rcases (b7 q d).2 hm with ⟨a1, a2, ⟨e, he, a3⟩, a4⟩ | ⟨a1, a2, ⟨e, he, a3⟩, a4⟩ | ⟨a1, a2, a3⟩
    · rw [if_neg (show ¬ (w q = 0) by omega)]
      refine Or.inl ⟨a1, a2, ⟨e, he, ?_⟩, fun e' he' => ⟨(a4 e' he').1, fun e0 hw => ?_⟩⟩
      · rcases a3 with a3 | a3
        · exact Or.inl a3
        · rw [if_neg (show ¬ (w e = 0) by omega)]; exact Or.inr a3
      · rw [if_neg (show ¬ (w e' = 0) by omega)]; exact (a4 e' he').2 e0 hw
    · rw [if_neg (show ¬ (w q = 0) by omega)]
      refine Or.inr (Or.inl ⟨a1, a2, ⟨e, he, ?_⟩, fun e' he' => ⟨(a4 e' he').1, fun e0 => ?_⟩⟩)
      · rcases a3 with a3 | a3
        · exact Or.inl a3
        · have := (a4 e he).2 a3.1
          rw [if_neg (show ¬ (w e = 0) by omega)]; exact Or.inr a3
      · have := (a4 e' he').2 e0
        rw [if_neg (show ¬ (w e' = 0) by omega)]; exact this
    · rw [if_pos a1]
      refine Or.inr (Or.inr ⟨a1, rfl, fun e he => ⟨(a2 e he).1, fun e0 hw => ?_⟩, ?_⟩)
      · have de := hc q d e he e0
        have h1 := (b5 e de).mpr (b1.2.2.2.1 e de (by omega))
        have := (a2 e he).2 e0 (Or.inl h1)
        omega
      · have h1 := b6 q d
        dsimp only at h1
        obtain ⟨e, e1, e2, e3⟩ := rem_1 b4 (m q) (by omega)
        refine ⟨e, e1, e2, fun hw => ?_⟩
        have de := hc q d e e1 e2
        have := (b5 e de).mpr (b1.2.2.2.1 e de (by omega))
        omega
