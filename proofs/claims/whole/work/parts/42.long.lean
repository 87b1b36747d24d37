/-! the longest row: what it is, and the reference's -/
def LGs (m : Int → List Int) (D : Int → Prop) (r : Int → Int) : Prop := ∀ p, D p → (r p = -1 ∧ ∃ e, e ∈ m p ∧ 0 ≤ e ∧ r e = -1) ∨
  (0 ≤ r p ∧ (∀ e, e ∈ m p → (0 ≤ e → 0 ≤ r e ∧ r e + 1 ≤ r p) ∧ (e < 0 → 1 ≤ r p)) ∧ (m p = [] → r p = 0) ∧ (m p ≠ [] → ∃ e, e ∈ m p ∧ ((e < 0 ∧ r p = 1) ∨ (0 ≤ e ∧ r p = r e + 1))))
theorem LG_half {m : Int → List Int} {D : Int → Prop} {r r' : Int → Int} (h1 : LGs m D r) (h2 : LGs m D r') (hc : cl m D) (n : Int) (ih : ∀ q, D q → (0 ≤ r q → r q < n → r' q = r q) ∧ (0 ≤ r' q → r' q < n → r q = r' q)) : ∀ p, D p → 0 ≤ r p → r p = n → r' p = r p := by
  intro p hp h0 hn
  rcases h1 p hp with a | ⟨a1, a2, a3, a4⟩
  · omega
  have hall : ∀ e, e ∈ m p → 0 ≤ e → 0 ≤ r e ∧ r e + 1 ≤ r p ∧ r' e = r e := fun e he e0 => by
    have := (a2 e he).1 e0
    have := (ih e (hc p hp e he e0)).1 (by omega) (by omega)
    omega
  rcases h2 p hp with ⟨b1, e, he, e0, b2⟩ | ⟨b1, b2, b3, b4⟩
  · have := hall e he e0; omega
  by_cases hm : m p = []
  · rw [a3 hm, b3 hm]
  · obtain ⟨e, he, q⟩ := a4 hm
    obtain ⟨e', he', q'⟩ := b4 hm
    have l1 : r p ≤ r' p := by
      rcases q with q | q
      · have := (b2 e he).2 q.1; omega
      · have := (b2 e he).1 q.1; have := hall e he q.1; omega
    have l2 : r' p ≤ r p := by
      rcases q' with q' | q'
      · have := (a2 e' he').2 q'.1; omega
      · have := hall e' he' q'.1; omega
    omega
theorem LG_uniq {m : Int → List Int} {D : Int → Prop} {r r' : Int → Int} (h1 : LGs m D r) (h2 : LGs m D r') (hc : cl m D) {p : Int} (hp : D p) : r p = r' p := by
  have main : ∀ n : Nat, ∀ q, D q → (0 ≤ r q → r q < n → r' q = r q) ∧ (0 ≤ r' q → r' q < n → r q = r' q) := by
    intro n
    induction n with
    | zero => intro q _; exact ⟨fun x y => by omega, fun x y => by omega⟩
    | succ n ih =>
      intro q hq
      refine ⟨fun x y => ?_, fun x y => ?_⟩
      · by_cases hl : r q < n
        · exact (ih q hq).1 x hl
        · exact LG_half h1 h2 hc n ih q hq x (by omega)
      · by_cases hl : r' q < n
        · exact (ih q hq).2 x hl
        · exact LG_half h2 h1 hc n (fun q hq => ⟨(ih q hq).2, (ih q hq).1⟩) q hq x (by omega)
  by_cases c : 0 ≤ r p
  · exact ((main ((r p).toNat + 1) p hp).1 c (by omega)).symm
  · by_cases c' : 0 ≤ r' p
    · exact (main ((r' p).toNat + 1) p hp).2 c' (by omega)
    · rcases h1 p hp with a | a <;> rcases h2 p hp with b | b <;> omega
noncomputable def vL (G : GM) (s : SL) (p : Int) : Int := Classical.epsilon fun x => ∃ (D : Int → Prop) (r : Int → Int), cl (nx G s) D ∧ LGs (nx G s) D r ∧ D p ∧ r p = x
theorem vL_e {G : GM} {s : SL} {D : Int → Prop} {r : Int → Int} (hc : cl (nx G s) D) (hS : LGs (nx G s) D r) {p : Int} (hp : D p) : r p = vL G s p := by
  obtain ⟨D', r', c', s', d', e⟩ := Classical.epsilon_spec (p := fun x => ∃ (D : Int → Prop) (r : Int → Int), cl (nx G s) D ∧ LGs (nx G s) D r ∧ D p ∧ r p = x) ⟨r p, D, r, hc, hS, hp, rfl⟩
  have := LG_uniq (D := fun q => D q ∧ D' q) (r := r) (r' := r') (fun q hq => hS q hq.1) (fun q hq => s' q hq.2) (fun q hq e he e0 => ⟨hc q hq.1 e he e0, c' q hq.2 e he e0⟩) ⟨hp, d'⟩
  exact this.trans e
theorem cI_dec {f f' : Int → Int} {q : Int} : ∀ (k : Nat) (lo i : Int), lo ≤ i → i < lo + k → f i = q → f' i ≠ q → (∀ j, j ≠ i → f' j = f j) → cI f' q lo k = cI f q lo k - 1 := by
  intro k
  induction k with
  | zero => intro lo i a b; omega
  | succ k ih =>
    intro lo i a b e1 e2 e3
    rw [cI, cI]
    by_cases c : i = lo
    · subst c
      rw [if_pos e1, if_neg e2, cI_congr (f := f') (g := f) k (i + 1) (fun j a b => e3 j (by omega))]; omega
    · rw [e3 lo (fun z => c z.symm), ih (lo + 1) i (by omega) (by omega) e1 e2 e3]; omega
theorem cI_len (f : Int → Int) (q : Int) : ∀ (k : Nat) (lo : Int), cI f q lo k ≤ k := by
  intro k
  induction k with
  | zero => intro lo; exact Int.le_refl _
  | succ k ih =>
    intro lo
    rw [cI]
    have := ih (lo + 1)
    by_cases c : f lo = q
    · rw [if_pos c]; omega
    · rw [if_neg c]; omega
/-- r of p is known, and so it is -/
def LGd (m : Int → List Int) (r : Int → Int) (p : Int) : Prop := 0 ≤ r p ∧ (∀ e, e ∈ m p → (0 ≤ e → 0 ≤ r e ∧ r e + 1 ≤ r p) ∧ (e < 0 → 1 ≤ r p)) ∧ (m p = [] → r p = 0) ∧ (m p ≠ [] → ∃ e, e ∈ m p ∧ ((e < 0 ∧ r p = 1) ∨ (0 ≤ e ∧ r p = r e + 1)))
theorem LGd_up {m : Int → List Int} {r : Int → Int} {p q x : Int} (h : LGd m r p) (hq : r q = -1) : LGd m (upI r q x) p := by
  obtain ⟨h1, h2, h3, h4⟩ := h
  have key : ∀ e, 0 ≤ r e → upI r q x e = r e := fun e he => upI_n _ _ (fun z => by rw [z] at he; omega)
  unfold LGd
  rw [key p h1]
  refine ⟨h1, fun e he => ⟨fun e0 => ?_, (h2 e he).2⟩, h3, fun hm => ?_⟩
  · have := (h2 e he).1 e0
    rw [key e this.1]; exact this
  · obtain ⟨e, he, z⟩ := h4 hm
    refine ⟨e, he, ?_⟩
    rcases z with z | z
    · exact Or.inl z
    · rw [key e ((h2 e he).1 z.1).1]; exact Or.inr z
theorem LGd_new {m : Int → List Int} {r : Int → Int} {p x : Int} (hp : r p = -1) (h1 : 0 ≤ x) (h2 : ∀ e, e ∈ m p → (0 ≤ e → 0 ≤ r e ∧ r e + 1 ≤ x) ∧ (e < 0 → 1 ≤ x)) (h3 : m p = [] → x = 0) (h4 : m p ≠ [] → ∃ e, e ∈ m p ∧ ((e < 0 ∧ x = 1) ∨ (0 ≤ e ∧ x = r e + 1))) : LGd m (upI r p x) p := by
  have key : ∀ e, 0 ≤ r e → upI r p x e = r e := fun e he => upI_n _ _ (fun z => by rw [z] at he; omega)
  unfold LGd
  rw [upI_s]
  refine ⟨h1, fun e he => ⟨fun e0 => ?_, (h2 e he).2⟩, h3, fun hm => ?_⟩
  · have := (h2 e he).1 e0
    rw [key e this.1]; exact this
  · obtain ⟨e, he, z⟩ := h4 hm
    refine ⟨e, he, ?_⟩
    rcases z with z | z
    · exact Or.inl z
    · rw [key e ((h2 e he).1 z.1).1]; exact Or.inr z
/-- as the reference's rows stand -/
def LR (G : GM) (s : SL) (V W : ASt) : Prop := (∀ a, a ≠ 182 → W a = V a) ∧ (∀ p, wPos V p → (W 182 p = -1 ∨ LGd (nx G s) (W 182) p)) ∧ (∀ p, wPos V p → W 182 p ≤ V 142 56 - cI (fun i => W 182 (V 179 i)) (-1) 0 (V 142 56).toNat)
theorem lg_L101 {G : GM} {s : SL} {V W : ASt} (hG : GOK G) (h : RM G s V) (hQ : QI G V) (hW : LR G s V W) {x1 x2 x3 p : Int} (hp : wPos V p) {K53 : ASt → Int → Option (Int × ASt)} {K61 : ASt → Int → Int → Option (Int × ASt)} {Q : Int → ASt → Prop}
    (hK : ∀ M : Int, ((M = -1 ∧ ∃ e, e ∈ nx G s p ∧ 0 ≤ e ∧ W 182 e = -1) ∨ (0 ≤ M ∧ (∀ e, e ∈ nx G s p → (0 ≤ e → 0 ≤ W 182 e ∧ W 182 e + 1 ≤ M) ∧ (e < 0 → 1 ≤ M)) ∧ (nx G s p = [] → M = 0) ∧ (nx G s p ≠ [] → ∃ e, e ∈ nx G s p ∧ ((e < 0 ∧ M = 1) ∨ (0 ≤ e ∧ M = W 182 e + 1))))) → Tr (b_M_longest_J207 S0 K53 K61 W 142 x1 x2 x3 p M) Q) :
    ∀ (n j : Nat) (M : Int), j ≤ (nx G s p).length → (nx G s p).length - j < n → 0 ≤ M → (∀ i : Nat, i < j → (0 ≤ (nx G s p).getD i 0 → 0 ≤ W 182 ((nx G s p).getD i 0) ∧ W 182 ((nx G s p).getD i 0) + 1 ≤ M) ∧ ((nx G s p).getD i 0 < 0 → 1 ≤ M)) → (j = 0 → M = 0) → (0 < j → ∃ i : Nat, i < j ∧ (((nx G s p).getD i 0 < 0 ∧ M = 1) ∨ (0 ≤ (nx G s p).getD i 0 ∧ M = W 182 ((nx G s p).getD i 0) + 1))) →
      Tr (b_M_longest_L101 S0 K53 K61 142 x1 x2 x3 p n W M (20 * p + j)) Q := by
  have hq := qPos_le hG
  obtain ⟨r1, r2, r3, r4, r5⟩ := h p hp.1 hp.2.1 hp.2.2
  have hp0 := hp.1
  have hp1 := hp.2.1
  obtain ⟨w1, w2, w3⟩ := hW
  intro n
  induction n with
  | zero => intro j M h1 h2; omega
  | succ n ih =>
    intro j M hj hn hM hall hz hex
    rw [b_M_longest_L101, F_142_51, A_175, gd_in (by omega) (by omega), w32_id (x := 20 * p) (by omega) (by omega), w1 175 (by decide), r2, w32_id (x := 20 * p + ((nx G s p).length : Int)) (by omega) (by omega)]
    refine Tr_if (fun c => ?_) (fun c => ?_)
    · have ej : j = (nx G s p).length := by omega
      refine hK M (Or.inr ⟨hM, (all_idx (P := fun e => (0 ≤ e → 0 ≤ W 182 e ∧ W 182 e + 1 ≤ M) ∧ (e < 0 → 1 ≤ M))).mpr fun i hi => hall i (by omega), fun hn' => hz (by rw [ej, hn']; rfl), fun hn' => ?_⟩)
      obtain ⟨i, i1, i2⟩ := hex (by rw [ej]; exact Nat.pos_of_ne_zero (fun e => hn' (List.length_eq_zero_iff.mp e)))
      exact ⟨_, getD_mem (by omega), i2⟩
    rw [if_neg (by omega)]
    have hjl : j < (nx G s p).length := by omega
    have e7 := (r4 j hjl).2
    have hmem := r5 _ (getD_mem hjl)
    have hm := getD_mem hjl
    have hb2 : (nx G s p).length - (j + 1) < n := by clear hex; omega
    have ihh := fun M => ih (j + 1) M hjl hb2
    rw [show (20 * p + ((j + 1 : Nat) : Int)) = 20 * p + (j : Int) + 1 by clear hex; omega] at ihh
    rw [F_142_53, A_177, gd_in (by omega) (by omega), w1 177 (by decide), e7]
    have hpick : ∀ i : Nat, i < j + 1 → i < j ∨ i = j := fun i hi => by omega
    generalize hE : (nx G s p).getD j 0 = e at *
    have hw : w32 (20 * p + (j : Int) + 1) = 20 * p + (j : Int) + 1 := w32_id (by omega) (by omega)
    have hJ : ∀ y, 1 ≤ y → ((e < 0 ∧ y = 1) ∨ (0 ≤ e ∧ 0 ≤ W 182 e ∧ y = W 182 e + 1)) → Tr (b_M_longest_J173 S0 K53 K61 (b_M_longest_L101 S0 K53 K61 142 x1 x2 x3 p n) W 142 x1 x2 x3 p M (20 * p + j) y) Q := by
      intro y hy1 hy
      unfold b_M_longest_J173
      rw [if_neg (by omega), hw]
      refine Tr_if (fun c1 => ?_) (fun c1 => ?_)
      · refine ihh M hM (fun i hi => ?_) (fun z => by omega) (fun _ => ?_)
        · rcases hpick i hi with z | z
          · exact hall i z
          · rw [z, hE]; omega
        · by_cases hj0 : j = 0
          · have := hz hj0; omega
          · obtain ⟨i, i1, i2⟩ := hex (by omega)
            exact ⟨i, by omega, i2⟩
      · refine ihh y (by omega) (fun i hi => ?_) (fun z => by omega) (fun _ => ⟨j, by omega, by rw [hE]; omega⟩)
        rcases hpick i hi with z | z
        · have := hall i z
          exact ⟨fun z0 => by have := this.1 z0; omega, fun z0 => by have := this.2 z0; omega⟩
        · rw [z, hE]; omega
    refine Tr_if (fun c1 => ?_) (fun c1 => ?_)
    · rw [F_142_62, A_182, gd_in (by omega) (by omega)]
      have he : wPos V e := ⟨c1, by omega, by omega⟩
      refine Tr_if (fun c2 => ?_) (fun c2 => ?_)
      · unfold b_M_longest_J173
        rw [if_pos rfl, hw]
        cases n with
        | zero => omega
        | succ n =>
          rw [b_M_longest_L101, F_142_51, A_175, gd_in (by omega) (by omega)]
          have hfin := hK (-1) (Or.inl ⟨rfl, e, hm, c1, c2⟩)
          refine Tr_if (fun _ => hfin) (fun _ => Tr_t rfl hfin)
      · have h1 := w3 e he
        have h2 := cI_0 (fun i => W 182 (V 179 i)) (-1) (V 142 56).toNat 0
        have h3 := hQ.2.1
        have h4 : 0 ≤ W 182 e := by
          rcases w2 e he with z | z
          · exact absurd z c2
          · exact z.1
        rw [w32_id (x := W 182 e + 1) (by omega) (by omega)]
        exact hJ _ (by omega) (Or.inr ⟨c1, h4, rfl⟩)
    · exact hJ 1 (by omega) (Or.inl ⟨by omega, rfl⟩)
theorem lg_L61 {G : GM} {s : SL} {V : ASt} (hG : GOK G) (h : RM G s V) (hQ : QI G V) {x1 c0 : Int} {K53 : ASt → Int → Option (Int × ASt)} {Q : Int → ASt → Prop}
    (hK : ∀ (W : ASt) (x : Int), LR G s V W → ((x = 0 ∧ ∀ p, wPos V p → W 182 p = -1 → ∃ e, e ∈ nx G s p ∧ 0 ≤ e ∧ W 182 e = -1) ∨ (x = 1 ∧ cI (fun i => W 182 (V 179 i)) (-1) 0 (V 142 56).toNat < c0)) → Tr (K53 W x) Q) :
    ∀ (n : Nat) (k : Int) (W : ASt) (x : Int), 0 ≤ k → k ≤ V 142 56 → V 142 56 - k < n → LR G s V W → ((x = 0 ∧ cI (fun i => W 182 (V 179 i)) (-1) 0 (V 142 56).toNat = c0 ∧ ∀ i, 0 ≤ i → i < k → W 182 (V 179 i) = -1 → ∃ e, e ∈ nx G s (V 179 i) ∧ 0 ≤ e ∧ W 182 e = -1) ∨ (x = 1 ∧ cI (fun i => W 182 (V 179 i)) (-1) 0 (V 142 56).toNat < c0)) →
      Tr (b_M_longest_L61 S0 K53 142 x1 n W x k) Q := by
  have hq := qPos_le hG
  intro n
  induction n with
  | zero => intro k W x h1 h2; omega
  | succ n ih =>
    intro k W x k0 k1 hn hW hx
    have w1 := hW.1
    rw [b_M_longest_L61, w1 142 (by decide), F_142_55, F_142_62]
    have h200 := hQ.2.1
    refine Tr_if (fun c => ?_) (fun c => ?_)
    · refine hK W x hW ?_
      rcases hx with ⟨a1, a2, a3⟩ | a
      · refine Or.inl ⟨a1, fun p hp hr => ?_⟩
        rcases hQ.2.2.2.2 p hp.1 hp.2.1 with z | ⟨-, i, i0, i1, i2⟩
        · have := hp.2.2; omega
        · rw [← i2] at hr ⊢
          exact a3 i i0 (by omega) hr
      · exact Or.inr a
    have hi := hQ.2.2.1 k k0 (by omega)
    have hp : wPos V (V 179 k) := ⟨hi.1, by omega, hi.2.2⟩
    rw [A_179, gd_in (by omega) (by omega), w1 179 (by decide), A_182, gd_in (by omega) (by omega)]
    have hw : w32 (k + 1) = k + 1 := w32_id (by omega) (by omega)
    refine Tr_if (fun c1 => ?_) (fun c1 => ?_)
    · rw [w32_id (x := 20 * V 179 k) (by omega) (by omega), show 20 * V 179 k = 20 * V 179 k + ((0 : Nat) : Int) by omega]
      refine lg_L101 hG h hQ hW hp (fun M hM => ?_) FU 0 0 (Nat.zero_le _) (by rw [FU_v]; have := (h (V 179 k) hp.1 hp.2.1 hp.2.2).2.2.1; omega) (by omega) (fun i hi' => absurd hi' (Nat.not_lt_zero i)) (fun _ => rfl) (fun z => absurd z (Nat.lt_irrefl 0))
      unfold b_M_longest_J207
      rw [hw]
      rcases hM with ⟨m1, m2⟩ | ⟨m1, m2, m3, m4⟩
      · refine Tr_t m1 (ih (k + 1) W x (by omega) (by omega) (by omega) hW ?_)
        rcases hx with ⟨a1, a2, a3⟩ | a
        · refine Or.inl ⟨a1, a2, fun i i0 i1 hr => ?_⟩
          by_cases z : i = k
          · rw [z]; exact m2
          · exact a3 i i0 (by omega) hr
        · exact Or.inr a
      · refine Tr_f (by omega) ?_
        rw [F_142_62, A_182, gd_in (by omega) (by omega)]
        refine Tr_set (fun V1 e1 n1 => ?_)
        have hdec : cI (fun i => V1 182 (V 179 i)) (-1) 0 (V 142 56).toNat = cI (fun i => W 182 (V 179 i)) (-1) 0 (V 142 56).toNat - 1 ∨ ∃ j, j ≠ k ∧ 0 ≤ j ∧ j < V 142 56 ∧ V 179 j = V 179 k := by
          refine Or.inl ?_
          have hcg : cI (fun i => V1 182 (V 179 i)) (-1) 0 (V 142 56).toNat = cI (fun i => if i = k then M else W 182 (V 179 i)) (-1) 0 (V 142 56).toNat := by
            refine cI_congr _ _ (fun i a b => ?_)
            rw [e1]
            by_cases z : i = k
            · rw [if_pos z, z, upI_s]
            · rw [if_neg z, upI_n _ _ (fun q => z (hQ.2.2.2.1 i k (by omega) (by omega) k0 (by omega) q))]
          rw [hcg]
          refine cI_dec _ 0 k k0 (by omega) c1 ?_ (fun j hj => if_neg hj)
          rw [if_pos rfl]; omega
        have hdec' : cI (fun i => V1 182 (V 179 i)) (-1) 0 (V 142 56).toNat = cI (fun i => W 182 (V 179 i)) (-1) 0 (V 142 56).toNat - 1 := by
          rcases hdec with z | ⟨j, j1, j2, j3, j4⟩
          · exact z
          · exact absurd (hQ.2.2.2.1 j k j2 j3 k0 (by omega) j4) j1
        have hle : M ≤ V 142 56 - cI (fun i => V1 182 (V 179 i)) (-1) 0 (V 142 56).toNat := by
          have hcp := cI_pos (f := fun i => W 182 (V 179 i)) (q := -1) (V 142 56).toNat 0 k k0 (by omega) c1
          have hcl := cI_len (fun i => W 182 (V 179 i)) (-1) (V 142 56).toNat 0
          by_cases hm : nx G s (V 179 k) = []
          · have := m3 hm; omega
          · obtain ⟨e, he, z⟩ := m4 hm
            rcases z with z | z
            · omega
            · have := hW.2.2 e (RM_cl hG h _ hp e he z.1)
              omega
        refine ih (k + 1) V1 1 (by omega) (by omega) (by omega) ⟨fun a ha => by rw [n1 a ha, w1 a ha], fun p hp' => ?_, fun p hp' => ?_⟩ (Or.inr ⟨rfl, ?_⟩)
        · rw [e1]
          by_cases z : p = V 179 k
          · rw [z]
            exact Or.inr (LGd_new c1 m1 m2 m3 m4)
          · rcases hW.2.1 p hp' with y | y
            · exact Or.inl (by rw [upI_n _ _ z]; exact y)
            · exact Or.inr (LGd_up y c1)
        · by_cases z : p = V 179 k
          · have : V1 182 p = M := by rw [e1, z, upI_s]
            omega
          · have : V1 182 p = W 182 p := by rw [e1, upI_n _ _ z]
            have := hW.2.2 p hp'
            omega
        · rcases hx with ⟨a1, a2, a3⟩ | a <;> omega
    · rw [hw]
      refine ih (k + 1) W x (by omega) (by omega) (by omega) hW ?_
      rcases hx with ⟨a1, a2, a3⟩ | a
      · refine Or.inl ⟨a1, a2, fun i i0 i1 hr => ?_⟩
        by_cases z : i = k
        · rw [z] at hr; exact absurd hr c1
        · exact a3 i i0 (by omega) hr
      · exact Or.inr a
theorem lg_L53 {G : GM} {s : SL} {V : ASt} (hG : GOK G) (h : RM G s V) (hQ : QI G V) {x1 : Int} (hx1 : wPos V x1) : ∀ (n : Nat) (W : ASt) (x : Int), LR G s V W → ((x = 0 ∧ ∀ p, wPos V p → W 182 p = -1 → ∃ e, e ∈ nx G s p ∧ 0 ≤ e ∧ W 182 e = -1) ∨ (x = 1 ∧ cI (fun i => W 182 (V 179 i)) (-1) 0 (V 142 56).toNat + 1 < n)) → 0 < n →
      Tr (b_M_longest_L53 S0 142 x1 n W x) (fun y U => (∀ a, a ≠ 182 → U a = V a) ∧ y = vL G s x1) := by
  intro n
  induction n with
  | zero => intro W x _ _ h; omega
  | succ n ih =>
    intro W x hW hx _
    rw [b_M_longest_L53, F_142_62, A_182]
    rcases hx with ⟨a1, a2⟩ | ⟨a1, a2⟩
    · refine Tr_t a1 ?_
      rw [gd_in hx1.1 hx1.2.1]
      refine Tr_ret ⟨hW.1, vL_e (RM_cl hG h) (D := wPos V) (fun p hp => ?_) hx1⟩
      rcases hW.2.1 p hp with z | z
      · exact Or.inl ⟨z, a2 p hp z⟩
      · exact Or.inr z
    · refine Tr_f (by omega) ?_
      have h0 := cI_0 (fun i => W 182 (V 179 i)) (-1) (V 142 56).toNat 0
      refine lg_L61 hG h hQ (c0 := cI (fun i => W 182 (V 179 i)) (-1) 0 (V 142 56).toNat) (fun W2 x2 hW2 hx2 => ?_) FU 0 W 0 (by omega) hQ.1 (by rw [FU_v]; have := hQ.2.1; omega) hW (Or.inl ⟨rfl, rfl, fun i a b => by omega⟩)
      have h0' := cI_0 (fun i => W2 182 (V 179 i)) (-1) (V 142 56).toNat 0
      refine ih W2 x2 hW2 ?_ (by omega)
      rcases hx2 with z | z
      · exact Or.inl z
      · exact Or.inr ⟨z.1, by omega⟩
theorem R_longest {G : GM} {s : SL} {V : ASt} (hG : GOK G) (h : RM G s V) (hQ : QI G V) {x1 : Int} (hx1 : wPos V x1) : ∀ (n : Nat) (k : Int) (W : ASt), 0 ≤ k → k ≤ V 142 56 → V 142 56 - k < n → (∀ a, a ≠ 182 → W a = V a) → (∀ i, 0 ≤ i → i < k → W 182 (V 179 i) = -1) →
      Tr (b_M_longest_L25 S0 142 x1 n W k) (fun y U => (∀ a, a ≠ 182 → U a = V a) ∧ y = vL G s x1) := by
  have hq := qPos_le hG
  intro n
  induction n with
  | zero => intro k W h1 h2; omega
  | succ n ih =>
    intro k W k0 k1 hn w1 hr
    have h200 := hQ.2.1
    rw [b_M_longest_L25, w1 142 (by decide), F_142_55, F_142_62]
    refine Tr_if (fun c => ?_) (fun c => ?_)
    · have hall : ∀ p, wPos V p → W 182 p = -1 := fun p hp => by
        rcases hQ.2.2.2.2 p hp.1 hp.2.1 with z | ⟨-, i, i0, i1, i2⟩
        · have := hp.2.2; omega
        · rw [← i2]; exact hr i i0 (by omega)
      have hcl := cI_len (fun i => W 182 (V 179 i)) (-1) (V 142 56).toNat 0
      refine lg_L53 hG h hQ hx1 FU W 1 ⟨w1, fun p hp => Or.inl (hall p hp), fun p hp => ?_⟩ (Or.inr ⟨rfl, by rw [FU_v]; omega⟩) (by rw [FU_v]; decide)
      rw [hall p hp]; have := hQ.1; omega
    have hi := hQ.2.2.1 k k0 (by omega)
    rw [A_179, gd_in (by omega) (by omega), w1 179 (by decide), A_182, gd_in (by omega) (by omega)]
    refine Tr_set (fun V1 e1 n1 => ?_)
    rw [w32_id (x := k + 1) (by omega) (by omega)]
    refine ih (k + 1) V1 (by omega) (by omega) (by omega) (fun a ha => by rw [n1 a ha, w1 a ha]) (fun i i0 i1 => ?_)
    rw [e1]
    by_cases z : i = k
    · rw [z, upI_s]
    · by_cases z2 : V 179 i = V 179 k
      · rw [z2, upI_s]
      · rw [upI_n _ _ z2]; exact hr i i0 (by omega)
