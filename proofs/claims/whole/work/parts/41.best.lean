/-! the worths as one thing; best moves -/
noncomputable def vW (G : GM) (s : SL) (p : Int) : Int := Classical.epsilon fun x => ∃ (D : Int → Prop) (w t : Int → Int), cl (nx G s) D ∧ Sol (nx G s) (qU G - 1) D w t ∧ D p ∧ w p = x
noncomputable def vT (G : GM) (s : SL) (p : Int) : Int := Classical.epsilon fun x => ∃ (D : Int → Prop) (w t : Int → Int), cl (nx G s) D ∧ Sol (nx G s) (qU G - 1) D w t ∧ D p ∧ t p = x
theorem vW_e {G : GM} {s : SL} {D : Int → Prop} {w t : Int → Int} (hc : cl (nx G s) D) (hS : Sol (nx G s) (qU G - 1) D w t) {p : Int} (hp : D p) : w p = vW G s p ∧ t p = vT G s p := by
  constructor
  · obtain ⟨D', w', t', c', s', d', e⟩ := Classical.epsilon_spec (p := fun x => ∃ (D : Int → Prop) (w t : Int → Int), cl (nx G s) D ∧ Sol (nx G s) (qU G - 1) D w t ∧ D p ∧ w p = x) ⟨w p, D, w, t, hc, hS, hp, rfl⟩
    exact ((Sol_two hS s' hc c' hp d').1).trans e
  · obtain ⟨D', w', t', c', s', d', e⟩ := Classical.epsilon_spec (p := fun x => ∃ (D : Int → Prop) (w t : Int → Int), cl (nx G s) D ∧ Sol (nx G s) (qU G - 1) D w t ∧ D p ∧ t p = x) ⟨t p, D, w, t, hc, hS, hp, rfl⟩
    exact ((Sol_two hS s' hc c' hp d').2).trans e
/-- a best move, by what is behind it -/
def bp (w t : Int → Int) (p e : Int) : Prop := (w p = 1 ∧ ((e = -1 ∧ t p = 1) ∨ (0 ≤ e ∧ w e = -1 ∧ t e = t p - 1))) ∨ (w p = -1 ∧ ((e = -2 ∧ t p = 1) ∨ (0 ≤ e ∧ t e = t p - 1))) ∨ (w p = 0 ∧ 0 ≤ e ∧ w e = 0)
/-- j is the place of the first one in l for which P, from i on; -1 if there is none -/
def isF (P : Int → Prop) (l : List Int) (i : Nat) (j : Int) : Prop := (j = -1 ∧ ∀ k : Nat, i ≤ k → k < l.length → ¬ P (l.getD k 0)) ∨ (∃ k : Nat, j = k ∧ i ≤ k ∧ k < l.length ∧ P (l.getD k 0) ∧ ∀ k' : Nat, i ≤ k' → k' < k → ¬ P (l.getD k' 0))
theorem isF_u {P : Int → Prop} {l : List Int} {i : Nat} {j j' : Int} (h : isF P l i j) (h' : isF P l i j') : j = j' := by
  rcases h with ⟨a, b⟩ | ⟨k, a, b, c, d, e⟩ <;> rcases h' with ⟨a', b'⟩ | ⟨k', a', b', c', d', e'⟩
  · omega
  · exact absurd d' (b k' b' c')
  · exact absurd d (b' k b c)
  · by_cases h1 : k < k'
    · exact absurd d (e' k b h1)
    · by_cases h2 : k' < k
      · exact absurd d' (e k' b' h2)
      · omega
theorem isF_here {P : Int → Prop} {l : List Int} {i : Nat} (hi : i < l.length) (h : P (l.getD i 0)) : isF P l i i := Or.inr ⟨i, rfl, Nat.le_refl _, hi, h, fun k a b => by omega⟩
theorem isF_on {P : Int → Prop} {l : List Int} {i : Nat} {j : Int} (h : ¬ P (l.getD i 0)) (hh : isF P l (i + 1) j) : isF P l i j := by
  rcases hh with ⟨a, b⟩ | ⟨k, a, b, c, d, e⟩
  · refine Or.inl ⟨a, fun k h1 h2 => ?_⟩
    by_cases z : k = i
    · rw [z]; exact h
    · exact b k (by omega) h2
  · refine Or.inr ⟨k, a, by omega, c, d, fun k' h1 h2 => ?_⟩
    by_cases z : k' = i
    · rw [z]; exact h
    · exact e k' (by omega) h2
theorem isF_end {P : Int → Prop} {l : List Int} {i : Nat} (h : l.length ≤ i) : isF P l i (-1) := Or.inl ⟨rfl, fun k a b => by omega⟩
noncomputable def bst (G : GM) (s : SL) (p : Int) : Int := Classical.epsilon fun j => isF (bp (vW G s) (vT G s) p) (nx G s p) 0 j
theorem bst_e {G : GM} {s : SL} {p j : Int} (h : isF (bp (vW G s) (vT G s) p) (nx G s p) 0 j) : j = bst G s p := isF_u h (Classical.epsilon_spec (p := fun j => isF (bp (vW G s) (vT G s) p) (nx G s p) 0 j) ⟨j, h⟩)
theorem isF_iff {P P' : Int → Prop} {l : List Int} {i : Nat} {j : Int} (h : ∀ e, e ∈ l → (P e ↔ P' e)) (hh : isF P l i j) : isF P' l i j := by
  rcases hh with ⟨a, b⟩ | ⟨k, a, b, c, d, e⟩
  · exact Or.inl ⟨a, fun k h1 h2 z => b k h1 h2 ((h _ (getD_mem h2)).mpr z)⟩
  · exact Or.inr ⟨k, a, b, c, (h _ (getD_mem c)).mp d, fun k' h1 h2 z => e k' h1 h2 ((h _ (getD_mem (by omega))).mpr z)⟩
/-- a position with moves has a best one -/
theorem bp_ex {m : Int → List Int} {u : Int} {D : Int → Prop} {w t : Int → Int} (hS : Sol m u D w t) (hr : ∀ p, D p → ∀ e, e ∈ m p → e = -1 ∨ e = -2 ∨ 0 ≤ e) {p : Int} (hp : D p) (hm : m p ≠ []) (hw3 : ∀ e, e ∈ m p → 0 ≤ e → w e = 1 ∨ w e = -1 ∨ w e = 0) : ∃ e, e ∈ m p ∧ bp w t p e := by
  rcases (hS p hp).2 hm with ⟨a1, a2, ⟨e, he, a3⟩, a4⟩ | ⟨a1, a2, ⟨e, he, a3⟩, a4⟩ | ⟨a1, a2, a3, ⟨e, he, a4, a5⟩⟩
  · refine ⟨e, he, Or.inl ⟨a1, ?_⟩⟩
    rcases a3 with a3 | a3
    · exact Or.inl a3
    · exact Or.inr ⟨a3.1, a3.2.1, by omega⟩
  · refine ⟨e, he, Or.inr (Or.inl ⟨a1, ?_⟩)⟩
    rcases a3 with a3 | a3
    · have h1 := hr p hp e he
      have h2 := (a4 e he).1
      exact Or.inl ⟨by omega, a3.2⟩
    · exact Or.inr ⟨a3.1, by omega⟩
  · refine ⟨e, he, Or.inr (Or.inr ⟨a1, a4, ?_⟩)⟩
    have := (a3 e he).2 a4
    have := hw3 e he a4
    omega
theorem isF_ex {P : Int → Prop} {l : List Int} {j : Int} (h : isF P l 0 j) (he : ∃ e, e ∈ l ∧ P e) : 0 ≤ j ∧ j < l.length ∧ P (l.getD j.toNat 0) := by
  rcases h with ⟨a, b⟩ | ⟨k, a, b, c, d, e⟩
  · obtain ⟨k, k1, k2⟩ := ex_idx.mp he
    exact absurd k2 (b k (Nat.zero_le _) k1)
  · subst a
    exact ⟨by omega, by omega, by rw [show ((k : Int)).toNat = k by omega]; exact d⟩
-- ---- the reference's
theorem bestOf_loop {G : GM} (hG : GOK G) {s : SL} {V : ASt} (h : RM G s V) {p : Int} (hp : wPos V p) (hb : ∀ e, wPos V e → -1 ≤ V 181 e ∧ V 181 e < 100000) : ∀ (n j : Nat), j ≤ (nx G s p).length → (nx G s p).length - j < n →
    ∃ x, b_M_bestOf_L2 S0 142 p n V j = some (x, V) ∧ isF (bp (V 180) (V 181) p) (nx G s p) j x := by
  have hq := qPos_le hG
  obtain ⟨r1, r2, r3, r4, r5⟩ := h p hp.1 hp.2.1 hp.2.2
  intro n
  induction n with
  | zero => intro j h1 h2; omega
  | succ n ih =>
    intro j hj hn
    have hp0 := hp.1
    have hp1 := hp.2.1
    rw [b_M_bestOf_L2, F_142_51, A_175, gd_in (by omega) (by omega), r2]
    by_cases c : ((nx G s p).length : Int) ≤ (j : Int)
    · rw [if_pos c]
      exact ⟨-1, rfl, isF_end (by omega)⟩
    have hjl : j < (nx G s p).length := by omega
    have e7 := (r4 j hjl).2
    have ihj := ih (j + 1) (by omega) (by omega)
    rw [show ((j + 1 : Nat) : Int) = (j : Int) + 1 by omega] at ihj
    rw [if_neg c, w32_id (x := 20 * p) (by omega) (by omega), w32_id (x := 20 * p + (j : Int)) (by omega) (by omega), F_142_53, A_177, gd_in (by omega) (by omega), F_142_58, A_181, gd_in (by omega) (by omega), F_142_57, A_180, gd_in (by omega) (by omega), e7]
    have hmem := r5 _ (getD_mem hjl)
    have hyes := isF_here (P := bp (V 180) (V 181) p) hjl
    have hno := fun (x : Int) => isF_on (P := bp (V 180) (V 181) p) (l := nx G s p) (i := j) (j := x)
    have hpb := hb p hp
    generalize (nx G s p).getD j 0 = e at *
    have hY : bp (V 180) (V 181) p e → ∃ x, some (((j : Nat) : Int), V) = some (x, V) ∧ isF (bp (V 180) (V 181) p) (nx G s p) j x := fun z => ⟨j, rfl, hyes z⟩
    have hN : ¬ bp (V 180) (V 181) p e → ∃ x, b_M_bestOf_L2 S0 142 p n V (w32 ((j : Int) + 1)) = some (x, V) ∧ isF (bp (V 180) (V 181) p) (nx G s p) j x := fun z => by
      rw [w32_id (x := (j : Int) + 1) (by omega) (by omega)]
      obtain ⟨x, hx, hh⟩ := ihj
      exact ⟨x, hx, hno x z hh⟩
    have h123 : V 180 p ≠ 1 → V 180 p ≠ -1 → ∃ x, b_M_bestOf_J123 S0 (b_M_bestOf_L2 S0 142 p n) V 142 p j e = some (x, V) ∧ isF (bp (V 180) (V 181) p) (nx G s p) j x := by
      intro z1 z2
      unfold b_M_bestOf_J123
      rw [F_142_57, A_180, gd_in (by omega) (by omega)]
      by_cases c0 : V 180 p = 0
      · rw [if_pos c0]
        by_cases c1 : e < 0
        · rw [if_pos c1]; exact hN (by unfold bp; omega)
        · rw [if_neg c1, A_180, gd_in (by omega) (by omega)]
          by_cases c2 : V 180 e = 0
          · rw [if_pos c2]; exact hY (Or.inr (Or.inr ⟨c0, by omega, c2⟩))
          · rw [if_neg c2]; exact hN (by unfold bp; omega)
      · rw [if_neg c0]; exact hN (by unfold bp; omega)
    have h123' : V 180 p ≠ 0 → ¬ bp (V 180) (V 181) p e → ∃ x, b_M_bestOf_J123 S0 (b_M_bestOf_L2 S0 142 p n) V 142 p j e = some (x, V) ∧ isF (bp (V 180) (V 181) p) (nx G s p) j x := by
      intro z1 z2
      unfold b_M_bestOf_J123
      rw [F_142_57, A_180, gd_in (by omega) (by omega), if_neg z1]; exact hN z2
    have h104 : V 180 p = -1 → ¬ (e = -2 ∧ V 181 p = 1) → ∃ x, b_M_bestOf_J104 S0 (b_M_bestOf_L2 S0 142 p n) V 142 p j e (V 181 p) = some (x, V) ∧ isF (bp (V 180) (V 181) p) (nx G s p) j x := by
      intro z1 z2
      unfold b_M_bestOf_J104
      by_cases c1 : e < 0
      · rw [if_pos c1]; exact h123' (by omega) (by unfold bp; omega)
      · rw [if_neg c1, F_142_58, A_181, gd_in (by omega) (by omega), w32_id (x := V 181 p - 1) (by omega) (by omega)]
        by_cases c2 : V 181 e = V 181 p - 1
        · rw [if_pos c2]; exact hY (Or.inr (Or.inl ⟨z1, Or.inr ⟨by omega, c2⟩⟩))
        · rw [if_neg c2]; exact h123' (by omega) (by unfold bp; omega)
    have h82 : (V 180 p = 1 → ¬ bp (V 180) (V 181) p e) → ∃ x, b_M_bestOf_J82 S0 (b_M_bestOf_L2 S0 142 p n) V 142 p j e (V 181 p) = some (x, V) ∧ isF (bp (V 180) (V 181) p) (nx G s p) j x := by
      intro z1
      unfold b_M_bestOf_J82
      rw [F_142_57, A_180, gd_in (by omega) (by omega)]
      by_cases c1 : V 180 p = -1
      · rw [if_pos c1]
        by_cases c2 : e = -2
        · rw [if_pos c2]
          by_cases c3 : V 181 p = 1
          · rw [if_pos c3]; exact hY (Or.inr (Or.inl ⟨c1, Or.inl ⟨c2, c3⟩⟩))
          · rw [if_neg c3]; exact h104 c1 (by omega)
        · rw [if_neg c2]; exact h104 c1 (by omega)
      · rw [if_neg c1]
        by_cases c2 : V 180 p = 1
        · exact h123' (by omega) (z1 c2)
        · exact h123 c2 c1
    by_cases c1 : V 180 p = 1
    · rw [if_pos c1]
      have h53 : ¬ (e = -1 ∧ V 181 p = 1) → ∃ x, b_M_bestOf_J53 S0 (b_M_bestOf_L2 S0 142 p n) V 142 p j e (V 181 p) = some (x, V) ∧ isF (bp (V 180) (V 181) p) (nx G s p) j x := by
        intro z
        unfold b_M_bestOf_J53
        by_cases c2 : e < 0
        · rw [if_pos c2]; exact h82 (fun _ => by unfold bp; omega)
        · rw [if_neg c2, F_142_57, A_180, gd_in (by omega) (by omega)]
          by_cases c3 : V 180 e = -1
          · rw [if_pos c3, F_142_58, A_181, gd_in (by omega) (by omega), w32_id (x := V 181 p - 1) (by omega) (by omega)]
            by_cases c4 : V 181 e = V 181 p - 1
            · rw [if_pos c4]; exact hY (Or.inl ⟨c1, Or.inr ⟨by omega, c3, c4⟩⟩)
            · rw [if_neg c4]; exact h82 (fun _ => by unfold bp; omega)
          · rw [if_neg c3]; exact h82 (fun _ => by unfold bp; omega)
      by_cases c2 : e = -1
      · rw [if_pos c2]
        by_cases c3 : V 181 p = 1
        · rw [if_pos c3]; exact hY (Or.inl ⟨c1, Or.inl ⟨c2, c3⟩⟩)
        · rw [if_neg c3]; exact h53 (by omega)
      · rw [if_neg c2]; exact h53 (by omega)
    · rw [if_neg c1]; exact h82 (fun z => absurd z c1)
theorem M_bestOf {G : GM} (hG : GOK G) {s : SL} {V : ASt} (h : RM G s V) (hS : Sol (nx G s) (qU G - 1) (wPos V) (V 180) (V 181)) {p : Int} (hp : wPos V p) (hb : ∀ e, wPos V e → -1 ≤ V 181 e ∧ V 181 e < 100000) : f_M_bestOf S0 V 142 p = some (bst G s p, V) := by
  have hc := RM_cl hG h
  have hr := h p hp.1 hp.2.1 hp.2.2
  obtain ⟨x, hx, hh⟩ := bestOf_loop hG h hp hb FU 0 (Nat.zero_le _) (by rw [FU_v]; omega)
  unfold f_M_bestOf
  rw [gd_t O_142]
  have e : x = bst G s p := bst_e (isF_iff (fun e he => ?_) hh)
  · rw [← e]; exact hx
  · have h1 := vW_e hc hS hp
    unfold bp
    rw [← h1.1, ← h1.2]
    by_cases e0 : 0 ≤ e
    · have h2 := vW_e hc hS (hc p hp e he e0)
      rw [← h2.1, ← h2.2]
    · constructor
      · rintro (z | z | z)
        · exact Or.inl ⟨z.1, Or.inl (by omega)⟩
        · exact Or.inr (Or.inl ⟨z.1, Or.inl (by omega)⟩)
        · omega
      · rintro (z | z | z)
        · exact Or.inl ⟨z.1, Or.inl (by omega)⟩
        · exact Or.inr (Or.inl ⟨z.1, Or.inl (by omega)⟩)
        · omega
-- ---- the class's
/-- the values at z are those of the listed positions -/
def VS (G : GM) (s : SL) (m z : Int) (V : ASt) : Prop := Sol (nx G s) (qU G - 1) (lP m V) (V z) (fun q => if V z q = 0 then -1 else V (z + 1) q) ∧ (∀ q, lP m V q → V z q ≠ 0 → 0 ≤ V (z + 1) q ∧ V (z + 1) q ≤ 200)
theorem Sol_w {m : Int → List Int} {u : Int} {D : Int → Prop} {w t : Int → Int} (hS : Sol m u D w t) (hu : -1 ≤ u ∧ u ≤ 1) {p : Int} (hp : D p) : w p = 1 ∨ w p = -1 ∨ w p = 0 := by
  by_cases hm : m p = []
  · have := ((hS p hp).1 hm).1; omega
  · rcases (hS p hp).2 hm with a | a | a
    · exact Or.inl a.1
    · exact Or.inr (Or.inl a.1)
    · exact Or.inr (Or.inr a.1)
theorem V_worthOf {v m z : Int} (hv : isVl v m z) (V : ASt) {p : Int} (hp : 0 ≤ p ∧ p < 200) : f_Values_worthOf S0 V v p = some (V z p, V) := by
  unfold f_Values_worthOf
  rw [gd_t (OV hv), if_neg (by omega), if_neg (by omega), FV_2 hv, AV0 hv, gd_in hp.1 hp.2]
theorem V_stepsOf {v m z : Int} (hv : isVl v m z) (V : ASt) {p : Int} (hp : 0 ≤ p ∧ p < 200) : f_Values_stepsOf S0 V v p = some (if V z p = 0 then -1 else V (z + 1) p, V) := by
  unfold f_Values_stepsOf
  rw [gd_t (OV hv), V_worthOf hv V hp, bnd_e]
  by_cases c : V z p = 0
  · rw [if_pos c, if_pos c]
  · rw [if_neg c, if_neg c, FV_3 hv, AV1 hv, gd_in hp.1 hp.2]
theorem bestMove_loop {G : GM} {s : SL} {v m z : Int} {V : ASt} {D : Int → Prop} (hG : GOK G) (hs : SOK G s) (hv : isVl v m z) (hD : ∀ p, D p → (0 ≤ p ∧ p < 200) ∧ mvH G s m V p) (hcl : cl (nx G s) D) (hS1 : Sol (nx G s) (qU G - 1) D (V z) (fun q => if V z q = 0 then -1 else V (z + 1) q)) (hS2 : ∀ q, D q → V z q ≠ 0 → 0 ≤ V (z + 1) q ∧ V (z + 1) q ≤ 200) {p : Int} (hp : D p) : ∀ (n j : Nat), j ≤ (nx G s p).length → (nx G s p).length - j < n →
    ∃ x, b_Values_bestMoveOf_L8 S0 v p (V z p) n V j = some (x, V) ∧ isF (bp (V z) (fun q => if V z q = 0 then -1 else V (z + 1) q) p) (nx G s p) j x := by
  have hm := isVl_m hv
  have h12 := nx_12 hG hs p
  have hU := hG.2.2.2.1
  have hp0 := (hD p hp).1.1
  have hp1 := (hD p hp).1.2
  have hqp := qPos_le hG
  have wp := Sol_w hS1 (by omega) hp
  have tp := hS2 p hp
  intro n
  induction n with
  | zero => intro j h1 h2; omega
  | succ n ih =>
    intro j hj hn
    rw [b_Values_bestMoveOf_L8, FV_1 hv, gd_t (OM hm), M_countOf hm ⟨hp0, hp1⟩ (hD p hp).2, bnd_e]
    by_cases c : ((nx G s p).length : Int) ≤ (j : Int)
    · rw [if_pos c]
      exact ⟨-1, rfl, isF_end (by omega)⟩
    have hjl : j < (nx G s p).length := by omega
    rw [if_neg c, M_nextOf hG hs hm ⟨hp0, hp1⟩ (hD p hp).2 hjl, bnd_e]
    have ihj := ih (j + 1) (by omega) (by omega)
    rw [show ((j + 1 : Nat) : Int) = (j : Int) + 1 by omega] at ihj
    have hr := nx_r hG hp0 (getD_mem hjl)
    have hmem := getD_mem hjl
    have hyes := isF_here (P := bp (V z) (fun q => if V z q = 0 then -1 else V (z + 1) q) p) hjl
    have hno := fun (x : Int) => isF_on (P := bp (V z) (fun q => if V z q = 0 then -1 else V (z + 1) q) p) (l := nx G s p) (i := j) (j := x)
    generalize (nx G s p).getD j 0 = e at *
    have hN : ¬ bp (V z) (fun q => if V z q = 0 then -1 else V (z + 1) q) p e → ∃ x, b_Values_bestMoveOf_L8 S0 v p (V z p) n V (w32 ((j : Int) + 1)) = some (x, V) ∧ isF (bp (V z) (fun q => if V z q = 0 then -1 else V (z + 1) q) p) (nx G s p) j x := fun zz => by
      rw [w32_id (x := (j : Int) + 1) (by omega) (by omega)]
      obtain ⟨x, hx, hh⟩ := ihj
      exact ⟨x, hx, hno x zz hh⟩
    -- behind the steps
    have h76 : ∀ (x5 st : Int), (x5 = V z p ∧ (V z p = 0 ∨ st = V (z + 1) p) ↔ bp (V z) (fun q => if V z q = 0 then -1 else V (z + 1) q) p e) → ∃ x, b_Values_bestMoveOf_J76 S0 (b_Values_bestMoveOf_L8 S0 v p (V z p) n) V v p (V z p) j x5 st = some (x, V) ∧ isF (bp (V z) (fun q => if V z q = 0 then -1 else V (z + 1) q) p) (nx G s p) j x := by
      intro x5 st hiff
      unfold b_Values_bestMoveOf_J76
      by_cases c1 : x5 = V z p
      · rw [if_pos c1]
        by_cases c2 : V z p = 0
        · rw [if_pos c2]
          exact ⟨j, rfl, hyes (hiff.mp ⟨c1, Or.inl c2⟩)⟩
        · rw [if_neg c2, V_stepsOf hv V ⟨hp0, hp1⟩, bnd_e, if_neg c2]
          by_cases c3 : st = V (z + 1) p
          · rw [if_pos c3]
            exact ⟨j, rfl, hyes (hiff.mp ⟨c1, Or.inr c3⟩)⟩
          · rw [if_neg c3]
            exact hN (fun q => by have := hiff.mpr q; omega)
      · rw [if_neg c1]
        exact hN (fun q => by have := hiff.mpr q; omega)
    by_cases c1 : e < 0
    · rw [if_pos c1]
      unfold b_Values_bestMoveOf_J57
      rw [if_pos c1, if_pos c1]
      by_cases c2 : e = -1
      · rw [if_pos c2]
        refine h76 1 1 ?_
        unfold bp
        dsimp only
        by_cases w0 : V z p = 0
        · rw [if_pos w0]; omega
        · rw [if_neg w0]; omega
      · rw [if_neg c2]
        refine h76 (-1) 1 ?_
        unfold bp
        dsimp only
        by_cases w0 : V z p = 0
        · rw [if_pos w0]; omega
        · rw [if_neg w0]; omega
    · rw [if_neg c1, V_worthOf hv V (by omega), bnd_e]
      have hle : D e := hcl p hp e hmem (by omega)
      have we := Sol_w hS1 (by omega) hle
      have te := hS2 e hle
      unfold b_Values_bestMoveOf_J57
      rw [if_neg c1, V_stepsOf hv V (by omega), bnd_e, w32_id (x := -(V z e)) (by omega) (by omega)]
      have hste : (if V z e = 0 then -1 else V (z + 1) e) ≤ 200 ∧ -1 ≤ (if V z e = 0 then -1 else V (z + 1) e) := by
        by_cases w0 : V z e = 0
        · rw [if_pos w0]; omega
        · rw [if_neg w0]; have := te w0; omega
      rw [w32_id (by omega) (by omega)]
      refine h76 _ _ ?_
      have hlost : V z p = -1 → V z e = 1 := fun hw => by
        have hm' : nx G s p ≠ [] := fun q => by rw [q] at hmem; cases hmem
        rcases (hS1 p hp).2 hm' with a | a | a
        · omega
        · exact ((a.2.2.2 e hmem).2 (by omega)).1
        · omega
      unfold bp
      dsimp only
      by_cases w0 : V z p = 0
      · rw [if_pos w0]; omega
      · rw [if_neg w0]
        by_cases w1 : V z e = 0
        · rw [if_pos w1]
          have := hlost
          constructor
          · intro q; omega
          · rintro (q | q | q) <;> omega
        · rw [if_neg w1]
          have := hlost
          constructor
          · rintro ⟨q1, q2⟩
            rcases wp with y | y | y
            · exact Or.inl ⟨y, Or.inr ⟨by omega, by omega, by omega⟩⟩
            · exact Or.inr (Or.inl ⟨y, Or.inr ⟨by omega, by omega⟩⟩)
            · omega
          · rintro (q | q | q)
            · rcases q.2 with y | y <;> omega
            · have := hlost q.1
              rcases q.2 with y | y <;> omega
            · omega
theorem V_bestMoveD {G : GM} {s : SL} {v m z : Int} {V : ASt} {D : Int → Prop} (hG : GOK G) (hs : SOK G s) (hv : isVl v m z) (hD : ∀ p, D p → (0 ≤ p ∧ p < 200) ∧ mvH G s m V p) (hc : cl (nx G s) D) (hS1 : Sol (nx G s) (qU G - 1) D (V z) (fun q => if V z q = 0 then -1 else V (z + 1) q)) (hS2 : ∀ q, D q → V z q ≠ 0 → 0 ≤ V (z + 1) q ∧ V (z + 1) q ≤ 200) {p : Int} (hp : D p) : f_Values_bestMoveOf S0 V v p = some (bst G s p, V) := by
  have h12 := nx_12 hG hs p
  obtain ⟨x, hx, hh⟩ := bestMove_loop hG hs hv hD hc hS1 hS2 hp FU 0 (Nat.zero_le _) (by rw [FU_v]; omega)
  unfold f_Values_bestMoveOf
  rw [gd_t (OV hv), V_worthOf hv V (hD p hp).1, bnd_e]
  have e : x = bst G s p := bst_e (isF_iff (fun e he => ?_) hh)
  · rw [← e]; exact hx
  · have h1 := vW_e hc hS1 hp
    unfold bp
    rw [← h1.1, ← h1.2]
    by_cases e0 : 0 ≤ e
    · have h2 := vW_e hc hS1 (hc p hp e he e0)
      rw [← h2.1, ← h2.2]
    · constructor
      · rintro (z | z | z)
        · exact Or.inl ⟨z.1, Or.inl (z.2.resolve_right (fun q => e0 q.1))⟩
        · exact Or.inr (Or.inl ⟨z.1, Or.inl (z.2.resolve_right (fun q => e0 q.1))⟩)
        · omega
      · rintro (z | z | z)
        · exact Or.inl ⟨z.1, Or.inl (z.2.resolve_right (fun q => e0 q.1))⟩
        · exact Or.inr (Or.inl ⟨z.1, Or.inl (z.2.resolve_right (fun q => e0 q.1))⟩)
        · omega
theorem V_bestMoveOf {G : GM} {s : SL} {v m z : Int} {V : ASt} (hG : GOK G) (hs : SOK G s) (hv : isVl v m z) (hL : LDC G s m V (V m 1)) (hS : VS G s m z V) {p : Int} (hp : lP m V p) : f_Values_bestMoveOf S0 V v p = some (bst G s p, V) :=
  V_bestMoveD hG hs hv (fun q hq => ⟨⟨hq.1, hq.2.1⟩, (LDC_at hG hL hq).2.1⟩) (LDC_cl hG hL) hS.1 hS.2 hp
