/-! chances: what they are, and the reference's -/
def chB (c : Int → Int) (p e : Int) : Int := if e < 0 then (if (e = -1 ∧ p % 2 = 0) ∨ (e ≠ -1 ∧ p % 2 = 1) then 1000000000 else 0) else c e
def sm (f : Int → Int) : List Int → Int
  | [] => 0
  | e :: l => f e + sm f l
theorem sm_app (f : Int → Int) : ∀ l l' : List Int, sm f (l ++ l') = sm f l + sm f l' := by
  intro l l'
  induction l with
  | nil => rw [List.nil_append, sm]; omega
  | cons e l ih => rw [List.cons_append, sm, sm, ih]; omega
theorem sm_take {f : Int → Int} {l : List Int} {j : Nat} (h : j < l.length) : sm f (l.take (j + 1)) = sm f (l.take j) + f (l.getD j 0) := by
  rw [take_s h, sm_app, sm, sm]; omega
theorem sm_r {f : Int → Int} : ∀ l : List Int, (∀ e, e ∈ l → 0 ≤ f e ∧ f e ≤ 1000000000) → 0 ≤ sm f l ∧ sm f l ≤ 1000000000 * l.length := by
  intro l
  induction l with
  | nil => intro _; exact ⟨Int.le_refl _, Int.le_refl _⟩
  | cons e l ih =>
    intro h
    have h1 := ih (fun e he => h e (List.mem_cons_of_mem _ he))
    have h2 := h e List.mem_cons_self
    rw [sm, List.length_cons]
    omega
def ch0 (G : GM) (s : SL) (p : Int) : Int := if nx G s p = [] ∧ ((qU G = 2 ∧ p % 2 = 0) ∨ (qU G = 0 ∧ p % 2 = 1)) then 1000000000 else 0
noncomputable def chS (G : GM) (s : SL) (er : Int → Int) : Nat → Int → Int
  | 0, p => ch0 G s p
  | n + 1, p => if nx G s p = [] then chS G s er n p else ((100 - er (p % 2)) * chB (chS G s er n) p ((nx G s p).getD (bst G s p).toNat 0) + er (p % 2) * (sm (chB (chS G s er n) p) (nx G s p) / (nx G s p).length)) / 100
theorem mul_r {a x B : Int} (ha : 0 ≤ a ∧ a ≤ 100) (hx : 0 ≤ x ∧ x ≤ B) : 0 ≤ a * x ∧ a * x ≤ 100 * B := by
  refine ⟨Int.mul_nonneg ha.1 hx.1, ?_⟩
  have h1 : a * x ≤ 100 * x := Int.mul_le_mul_of_nonneg_right ha.2 hx.1
  omega
theorem mix_r {er x y : Int} (he : 0 ≤ er ∧ er ≤ 100) (hx : 0 ≤ x ∧ x ≤ 1000000000) (hy : 0 ≤ y ∧ y ≤ 1000000000) : 0 ≤ (100 - er) * x + er * y ∧ (100 - er) * x + er * y ≤ 100000000000 := by
  have h1 := Int.mul_le_mul_of_nonneg_left hx.2 (show 0 ≤ 100 - er by omega)
  have h2 := Int.mul_le_mul_of_nonneg_left hy.2 he.1
  have h3 := Int.mul_nonneg (show 0 ≤ 100 - er by omega) hx.1
  have h4 := Int.mul_nonneg he.1 hy.1
  omega
theorem mix_e {er x all len : Int} (he : 0 ≤ er ∧ er ≤ 100) (hx : 0 ≤ x ∧ x ≤ 1000000000) (hl : 1 ≤ len ∧ len ≤ 20) (ha : 0 ≤ all ∧ all ≤ 1000000000 * len) :
    w64 (Int.tdiv (w64 ((w64 ((w32 (100 - er)) * x)) + (w64 (er * (w64 (Int.tdiv all len)))))) 100) = ((100 - er) * x + er * (all / len)) / 100 ∧ 0 ≤ ((100 - er) * x + er * (all / len)) / 100 ∧ ((100 - er) * x + er * (all / len)) / 100 ≤ 1000000000 := by
  have hd0 : 0 ≤ all / len := Int.ediv_nonneg ha.1 (by omega)
  have hd1 : all / len ≤ 1000000000 := Int.ediv_le_of_le_mul (by omega) (by omega)
  have hm := mix_r he hx ⟨hd0, hd1⟩
  have m1 := mul_r (a := 100 - er) (x := x) (B := 1000000000) (by omega) hx
  have m2 := mul_r (a := er) (x := all / len) (B := 1000000000) he ⟨hd0, hd1⟩
  rw [w32_id (x := 100 - er) (by omega) (by omega), tdiv_e ha.1, w64_id (x := all / len) (by omega) (by omega), w64_id (x := (100 - er) * x) (by omega) (by omega), w64_id (x := er * (all / len)) (by omega) (by omega), w64_id (x := (100 - er) * x + er * (all / len)) (by omega) (by omega), tdiv_e hm.1]
  refine ⟨w64_id (by omega) (by omega), by omega, by omega⟩
theorem chB_r {c : Int → Int} {p e : Int} (h : 0 ≤ e → 0 ≤ c e ∧ c e ≤ 1000000000) : 0 ≤ chB c p e ∧ chB c p e ≤ 1000000000 := by
  unfold chB
  by_cases c1 : e < 0
  · rw [if_pos c1]
    by_cases c2 : (e = -1 ∧ p % 2 = 0) ∨ (e ≠ -1 ∧ p % 2 = 1)
    · rw [if_pos c2]; omega
    · rw [if_neg c2]; omega
  · rw [if_neg c1]; exact h (by omega)
theorem chB_c {c c' : Int → Int} {p e : Int} (h : 0 ≤ e → c e = c' e) : chB c p e = chB c' p e := by
  unfold chB
  by_cases c1 : e < 0
  · rw [if_pos c1, if_pos c1]
  · rw [if_neg c1, if_neg c1]; exact h (by omega)
theorem sm_c {f g : Int → Int} : ∀ l : List Int, (∀ e, e ∈ l → f e = g e) → sm f l = sm g l := by
  intro l
  induction l with
  | nil => intro _; rfl
  | cons e l ih => intro h; rw [sm, sm, h e List.mem_cons_self, ih (fun e he => h e (List.mem_cons_of_mem _ he))]
/-- what of the reference stands while chances are reckoned -/
def CR (G : GM) (s : SL) (V : ASt) : Prop := RM G s V ∧ QI G V ∧ Sol (nx G s) (qU G - 1) (wPos V) (V 180) (V 181) ∧ (∀ e, wPos V e → -1 ≤ V 181 e ∧ V 181 e < 100000)
theorem CR_fr {G : GM} {s : SL} {V W : ASt} (h : ∀ a, a ≠ 183 → a ≠ 184 → W a = V a) (c : CR G s V) : CR G s W := by
  have e8 : W 178 = V 178 := h 178 (by decide) (by decide)
  have ew : wPos W = wPos V := by funext q; unfold wPos; rw [e8]
  refine ⟨RM_fr (fun a a1 a2 => h a (by omega) (by omega)) c.1, ?_, ?_, ?_⟩
  · have := c.2.1
    unfold QI at *
    rw [h 142 (by decide) (by decide), e8, h 179 (by decide) (by decide)]; exact this
  · rw [ew, h 180 (by decide) (by decide), h 181 (by decide) (by decide)]; exact c.2.2.1
  · rw [ew, h 181 (by decide) (by decide)]; exact c.2.2.2
theorem bst_in {G : GM} {s : SL} {D : Int → Prop} {w t : Int → Int} (hG : GOK G) (hc : cl (nx G s) D) (hS : Sol (nx G s) (qU G - 1) D w t) (hD0 : ∀ p, D p → 0 ≤ p) {p : Int} (hp : D p) (hm : nx G s p ≠ []) : 0 ≤ bst G s p ∧ bst G s p < (nx G s p).length := by
  have hU := hG.2.2.2.1
  obtain ⟨e, he, hb⟩ := bp_ex hS (fun q hq e he => by rcases nx_r hG (hD0 q hq) he with z | z | z <;> omega) hp hm (fun e he e0 => Sol_w hS (by omega) (hc p hp e he e0))
  have hbe : bp (vW G s) (vT G s) p e := by
    have h1 := vW_e hc hS hp
    unfold bp at *
    rw [← h1.1, ← h1.2]
    by_cases e0 : 0 ≤ e
    · have h2 := vW_e hc hS (hc p hp e he e0)
      rw [← h2.1, ← h2.2]; exact hb
    · rcases hb with z | z | z
      · exact Or.inl ⟨z.1, Or.inl (z.2.resolve_right (fun q => e0 q.1))⟩
      · exact Or.inr (Or.inl ⟨z.1, Or.inl (z.2.resolve_right (fun q => e0 q.1))⟩)
      · omega
  obtain ⟨k, k1, k2⟩ := ex_idx.mp ⟨e, he, hbe⟩
  -- the first such
  have hex : ∃ j, isF (bp (vW G s) (vT G s) p) (nx G s p) 0 j := by
    refine Classical.byContradiction fun hno => ?_
    have : ∀ n : Nat, ∀ i : Nat, i < n → ¬ (i < (nx G s p).length ∧ bp (vW G s) (vT G s) p ((nx G s p).getD i 0)) := by
      intro n
      induction n with
      | zero => intro i hi; omega
      | succ n ih =>
        intro i hi hh
        by_cases hin : i < n
        · exact ih i hin hh
        · exact hno ⟨i, Or.inr ⟨i, rfl, Nat.zero_le _, hh.1, hh.2, fun k' _ hk' z => ih k' (by omega) ⟨by omega, z⟩⟩⟩
    exact this (k + 1) k (by omega) ⟨k1, k2⟩
  have hsp : isF (bp (vW G s) (vT G s) p) (nx G s p) 0 (bst G s p) := Classical.epsilon_spec hex
  have := isF_ex hsp ⟨e, he, hbe⟩
  exact ⟨this.1, this.2.1⟩
theorem M_chanceBy {G : GM} {s : SL} {V : ASt} (hG : GOK G) (hC : CR G s V) {p : Int} (hp : wPos V p) {j : Nat} (hj : j < (nx G s p).length) : f_M_chanceBy S0 V 142 p j = some (chB (V 183) p ((nx G s p).getD j 0), V) := by
  have hq := qPos_le hG
  have hp0 := hp.1
  have hp1 := hp.2.1
  obtain ⟨r1, r2, r3, r4, r5⟩ := hC.1 p hp.1 hp.2.1 hp.2.2
  have e7 := (r4 j hj).2
  have hm := r5 _ (getD_mem hj)
  unfold f_M_chanceBy
  rw [gd_t O_142, w32_id (x := 20 * p) (by omega) (by omega), w32_id (x := 20 * p + (j : Int)) (by omega) (by omega), F_142_53, A_177, gd_in (by omega) (by omega), e7]
  generalize (nx G s p).getD j 0 = e at *
  unfold chB
  by_cases c : e < 0
  · rw [if_pos c, if_pos c]
    unfold b_M_chanceBy_J33
    by_cases c2 : e = -1
    · rw [if_pos c2]
      by_cases c3 : p % 2 = 0
      · simp only [tmod_e hp0, c2, c3, Int.reduceEq, reduceIte, true_and, ne_eq, not_true_eq_false, false_and, or_false]
      · simp only [tmod_e hp0, c2, c3, Int.reduceEq, reduceIte, true_and, ne_eq, not_true_eq_false, false_and, or_false]
    · rw [if_neg c2]
      by_cases c3 : p % 2 = 0
      · simp only [tmod_e hp0, c2, c3, Int.reduceEq, reduceIte, false_and, ne_eq, not_false_eq_true, true_and, false_or, or_false, and_false]
      · have c4 : p % 2 = 1 := by omega
        simp only [tmod_e hp0, c2, c4, Int.reduceEq, reduceIte, false_and, ne_eq, not_false_eq_true, true_and, false_or, or_true, and_false]
  · rw [if_neg c, if_neg c, F_142_63, A_183, gd_in (by omega) (by omega)]
