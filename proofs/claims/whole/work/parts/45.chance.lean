/-! chances: what they are, and the reference's -/
def chB (c : Int → Int) (p e : Int) : Int := if e < 0 then (if (e = -1 ∧ p % 2 = 0) ∨ (e ≠ -1 ∧ p % 2 = 1) then 1000000000 else 0) else c e
def sm (f : Int → Int) : List Int → Int
  | [] => 0
  | e :: l => f e + sm f l
theorem sm_app (f : Int → Int) : ∀ l l' : List Int, sm f (l ++ l') = sm f l + sm f l' := by
  intro l l'
  induction l with
  | nil => rw [List.nil_append, sm]; omega
  | cons e l ih => rw [List.cons_append, sm, sm, ih]; omega
theorem sm_take {f : Int → Int} {l : List Int} {j : Nat} (h : j < l.length) : sm f (l.take (j + 1)) = sm f (l.take j) + f (l.getD j 0) := by
  rw [take_s h, sm_app, sm, sm]; omega
theorem sm_r {f : Int → Int} : ∀ l : List Int, (∀ e, e ∈ l → 0 ≤ f e ∧ f e ≤ 1000000000) → 0 ≤ sm f l ∧ sm f l ≤ 1000000000 * l.length := by
  intro l
  induction l with
  | nil => intro _; exact ⟨Int.le_refl _, Int.le_refl _⟩
  | cons e l ih =>
    intro h
    have h1 := ih (fun e he => h e (List.mem_cons_of_mem _ he))
    have h2 := h e List.mem_cons_self
    rw [sm, List.length_cons]
    omega
def ch0 (G : GM) (s : SL) (p : Int) : Int := if nx G s p = [] ∧ ((qU G = 2 ∧ p % 2 = 0) ∨ (qU G = 0 ∧ p % 2 = 1)) then 1000000000 else 0
noncomputable def chS (G : GM) (s : SL) (er : Int → Int) : Nat → Int → Int
  | 0, p => ch0 G s p
  | n + 1, p => if nx G s p = [] then chS G s er n p else ((100 - er (p % 2)) * chB (chS G s er n) p ((nx G s p).getD (bst G s p).toNat 0) + er (p % 2) * (sm (chB (chS G s er n) p) (nx G s p) / (nx G s p).length)) / 100
theorem mul_r {a x B : Int} (ha : 0 ≤ a ∧ a ≤ 100) (hx : 0 ≤ x ∧ x ≤ B) : 0 ≤ a * x ∧ a * x ≤ 100 * B := by
  refine ⟨Int.mul_nonneg ha.1 hx.1, ?_⟩
  have h1 : a * x ≤ 100 * x := Int.mul_le_mul_of_nonneg_right ha.2 hx.1
  omega
theorem mix_r {er x y : Int} (he : 0 ≤ er ∧ er ≤ 100) (hx : 0 ≤ x ∧ x ≤ 1000000000) (hy : 0 ≤ y ∧ y ≤ 1000000000) : 0 ≤ (100 - er) * x + er * y ∧ (100 - er) * x + er * y ≤ 100000000000 := by
  have h1 := Int.mul_le_mul_of_nonneg_left hx.2 (show 0 ≤ 100 - er by omega)
  have h2 := Int.mul_le_mul_of_nonneg_left hy.2 he.1
  have h3 := Int.mul_nonneg (show 0 ≤ 100 - er by omega) hx.1
  have h4 := Int.mul_nonneg he.1 hy.1
  omega
theorem mix_e {er x all len : Int} (he : 0 ≤ er ∧ er ≤ 100) (hx : 0 ≤ x ∧ x ≤ 1000000000) (hl : 1 ≤ len ∧ len ≤ 20) (ha : 0 ≤ all ∧ all ≤ 1000000000 * len) :
    w64 (Int.tdiv (w64 ((w64 ((w32 (100 - er)) * x)) + (w64 (er * (w64 (Int.tdiv all len)))))) 100) = ((100 - er) * x + er * (all / len)) / 100 ∧ 0 ≤ ((100 - er) * x + er * (all / len)) / 100 ∧ ((100 - er) * x + er * (all / len)) / 100 ≤ 1000000000 := by
  have hd0 : 0 ≤ all / len := Int.ediv_nonneg ha.1 (by omega)
  have hd1 : all / len ≤ 1000000000 := Int.ediv_le_of_le_mul (by omega) (by omega)
  have hm := mix_r he hx ⟨hd0, hd1⟩
  have m1 := mul_r (a := 100 - er) (x := x) (B := 1000000000) (by omega) hx
  have m2 := mul_r (a := er) (x := all / len) (B := 1000000000) he ⟨hd0, hd1⟩
  rw [w32_id (x := 100 - er) (by omega) (by omega), tdiv_e ha.1, w64_id (x := all / len) (by omega) (by omega), w64_id (x := (100 - er) * x) (by omega) (by omega), w64_id (x := er * (all / len)) (by omega) (by omega), w64_id (x := (100 - er) * x + er * (all / len)) (by omega) (by omega), tdiv_e hm.1]
  refine ⟨w64_id (by omega) (by omega), by omega, by omega⟩
theorem chB_r {c : Int → Int} {p e : Int} (h : 0 ≤ e → 0 ≤ c e ∧ c e ≤ 1000000000) : 0 ≤ chB c p e ∧ chB c p e ≤ 1000000000 := by
  unfold chB
  by_cases c1 : e < 0
  · rw [if_pos c1]
    by_cases c2 : (e = -1 ∧ p % 2 = 0) ∨ (e ≠ -1 ∧ p % 2 = 1)
    · rw [if_pos c2]; omega
    · rw [if_neg c2]; omega
  · rw [if_neg c1]; exact h (by omega)
theorem chB_c {c c' : Int → Int} {p e : Int} (h : 0 ≤ e → c e = c' e) : chB c p e = chB c' p e := by
  unfold chB
  by_cases c1 : e < 0
  · rw [if_pos c1, if_pos c1]
  · rw [if_neg c1, if_neg c1]; exact h (by omega)
theorem sm_c {f g : Int → Int} : ∀ l : List Int, (∀ e, e ∈ l → f e = g e) → sm f l = sm g l := by
  intro l
  induction l with
  | nil => intro _; rfl
  | cons e l ih => intro h; rw [sm, sm, h e List.mem_cons_self, ih (fun e he => h e (List.mem_cons_of_mem _ he))]
/-- what of the reference stands while chances are reckoned -/
def CR (G : GM) (s : SL) (V : ASt) : Prop := RM G s V ∧ QI G V ∧ Sol (nx G s) (qU G - 1) (wPos V) (V 180) (V 181) ∧ (∀ e, wPos V e → -1 ≤ V 181 e ∧ V 181 e < 100000)
theorem CR_fr {G : GM} {s : SL} {V W : ASt} (h : ∀ a, a ≠ 183 → a ≠ 184 → W a = V a) (c : CR G s V) : CR G s W := by
  have e8 : W 178 = V 178 := h 178 (by decide) (by decide)
  have ew : wPos W = wPos V := by funext q; unfold wPos; rw [e8]
  refine ⟨RM_fr (fun a a1 a2 => h a (by omega) (by omega)) c.1, ?_, ?_, ?_⟩
  · have := c.2.1
    unfold QI at *
    rw [h 142 (by decide) (by decide), e8, h 179 (by decide) (by decide)]; exact this
  · rw [ew, h 180 (by decide) (by decide), h 181 (by decide) (by decide)]; exact c.2.2.1
  · rw [ew, h 181 (by decide) (by decide)]; exact c.2.2.2
theorem bst_in {G : GM} {s : SL} {D : Int → Prop} {w t : Int → Int} (hG : GOK G) (hc : cl (nx G s) D) (hS : Sol (nx G s) (qU G - 1) D w t) (hD0 : ∀ p, D p → 0 ≤ p) {p : Int} (hp : D p) (hm : nx G s p ≠ []) : 0 ≤ bst G s p ∧ bst G s p < (nx G s p).length := by
  have hU := hG.2.2.2.1
  obtain ⟨e, he, hb⟩ := bp_ex hS (fun q hq e he => by rcases nx_r hG (hD0 q hq) he with z | z | z <;> omega) hp hm (fun e he e0 => Sol_w hS (by omega) (hc p hp e he e0))
  have hbe : bp (vW G s) (vT G s) p e := by
    have h1 := vW_e hc hS hp
    unfold bp at *
    rw [← h1.1, ← h1.2]
    by_cases e0 : 0 ≤ e
    · have h2 := vW_e hc hS (hc p hp e he e0)
      rw [← h2.1, ← h2.2]; exact hb
    · rcases hb with z | z | z
      · exact Or.inl ⟨z.1, Or.inl (z.2.resolve_right (fun q => e0 q.1))⟩
      · exact Or.inr (Or.inl ⟨z.1, Or.inl (z.2.resolve_right (fun q => e0 q.1))⟩)
      · omega
  obtain ⟨k, k1, k2⟩ := ex_idx.mp ⟨e, he, hbe⟩
  -- the first such
  have hex : ∃ j, isF (bp (vW G s) (vT G s) p) (nx G s p) 0 j := by
    refine Classical.byContradiction fun hno => ?_
    have : ∀ n : Nat, ∀ i : Nat, i < n → ¬ (i < (nx G s p).length ∧ bp (vW G s) (vT G s) p ((nx G s p).getD i 0)) := by
      intro n
      induction n with
      | zero => intro i hi; omega
      | succ n ih =>
        intro i hi hh
        by_cases hin : i < n
        · exact ih i hin hh
        · exact hno ⟨i, Or.inr ⟨i, rfl, Nat.zero_le _, hh.1, hh.2, fun k' _ hk' z => ih k' (by omega) ⟨by omega, z⟩⟩⟩
    exact this (k + 1) k (by omega) ⟨k1, k2⟩
  have hsp : isF (bp (vW G s) (vT G s) p) (nx G s p) 0 (bst G s p) := Classical.epsilon_spec hex
  have := isF_ex hsp ⟨e, he, hbe⟩
  exact ⟨this.1, this.2.1⟩
theorem M_chanceBy {G : GM} {s : SL} {V : ASt} (hG : GOK G) (hC : CR G s V) {p : Int} (hp : wPos V p) {j : Nat} (hj : j < (nx G s p).length) : f_M_chanceBy S0 V 142 p j = some (chB (V 183) p ((nx G s p).getD j 0), V) := by
  have hq := qPos_le hG
  have hp0 := hp.1
  have hp1 := hp.2.1
  obtain ⟨r1, r2, r3, r4, r5⟩ := hC.1 p hp.1 hp.2.1 hp.2.2
  have e7 := (r4 j hj).2
  have hm := r5 _ (getD_mem hj)
  unfold f_M_chanceBy
  rw [gd_t O_142, w32_id (x := 20 * p) (by omega) (by omega), w32_id (x := 20 * p + (j : Int)) (by omega) (by omega), F_142_53, A_177, gd_in (by omega) (by omega), e7]
  generalize (nx G s p).getD j 0 = e at *
  unfold chB
  by_cases c : e < 0
  · rw [if_pos c, if_pos c]
    unfold b_M_chanceBy_J33
    by_cases c2 : e = -1
    · rw [if_pos c2]
      by_cases c3 : p % 2 = 0
      · simp only [tmod_e hp0, c2, c3, Int.reduceEq, reduceIte, true_and, ne_eq, not_true_eq_false, false_and, or_false]; rfl
      · simp only [tmod_e hp0, c2, c3, Int.reduceEq, reduceIte, true_and, ne_eq, not_true_eq_false, false_and, or_false]; rfl
    · rw [if_neg c2]
      by_cases c3 : p % 2 = 0
      · simp only [tmod_e hp0, c2, c3, Int.reduceEq, reduceIte, false_and, ne_eq, not_false_eq_true, true_and, false_or, or_false, and_false]; rfl
      · have c4 : p % 2 = 1 := by omega
        simp only [tmod_e hp0, c2, c4, Int.reduceEq, reduceIte, false_and, ne_eq, not_false_eq_true, true_and, false_or, or_true, and_false]; rfl
  · rw [if_neg c, if_neg c, F_142_63, A_183, gd_in (by omega) (by omega)]
/-- U is V but for the rows of chances -/
def frH (V U : ASt) : Prop := ∀ a, a ≠ 183 → a ≠ 184 → U a = V a
/-- the row f holds c at the queue's positions -/
def hC (V : ASt) (f c : Int → Int) : Prop := ∀ p, wPos V p → f p = c p ∧ 0 ≤ c p ∧ c p ≤ 1000000000
theorem li_L198 {G : GM} {s : SL} {V W : ASt} (hG : GOK G) (hCR : CR G s V) {er c : Int → Int} (her : ∀ j, 0 ≤ j → j ≤ 1 → V 174 j = er j ∧ 0 ≤ er j ∧ er j ≤ 100) (fW : frH V W) (hc : hC V (W 183) c) {p : Int} (hp : wPos V p) (hm : nx G s p ≠ []) {x1 x2 x3 x4 : Int} {K139 K147 : ASt → Int → Option (Int × ASt)} {Q : Int → ASt → Prop}
    (hK : ∀ U : ASt, (∀ a, a ≠ 184 → U a = W a) → U 184 = upI (W 184) p (((100 - er (p % 2)) * chB c p ((nx G s p).getD (bst G s p).toNat 0) + er (p % 2) * (sm (chB c p) (nx G s p) / (nx G s p).length)) / 100) → Tr (K147 U (w32 (x4 + 1))) Q)  :
    ∀ (n j : Nat), j ≤ (nx G s p).length → (nx G s p).length - j < n → Tr (b_M_likely_L198 S0 K139 K147 142 x1 x2 x3 x4 p n W (sm (chB c p) ((nx G s p).take j)) j) Q := by
  have hq := qPos_le hG
  have hp0 := hp.1
  have hp1 := hp.2.1
  have CW : CR G s W := CR_fr fW hCR
  have hpW : wPos W p := (wPos_fr (fW 178 (by decide) (by decide)) p).mpr hp
  obtain ⟨r1, r2, r3, r4, r5⟩ := CW.1 p hpW.1 hpW.2.1 hpW.2.2
  have hcl := RM_cl hG CW.1
  have ewp : ∀ e, wPos W e → wPos V e := fun e he => (wPos_fr (fW 178 (by decide) (by decide)) e).mp he
  have hcb : ∀ e, e ∈ nx G s p → 0 ≤ e → W 183 e = c e := fun e he e0 => (hc e (ewp e (hcl p hpW e he e0))).1
  have hcr : ∀ e, e ∈ nx G s p → 0 ≤ chB c p e ∧ chB c p e ≤ 1000000000 := fun e he => chB_r (fun e0 => (hc e (ewp e (hcl p hpW e he e0))).2)
  have herp := her (p % 2) (by omega) (by omega)
  have hb := bst_in hG hcl CW.2.2.1 (fun q hq => hq.1) hpW hm
  intro n
  induction n with
  | zero => intro j h1 h2; omega
  | succ n ih =>
    intro j hj hn
    rw [b_M_likely_L198, F_142_51, A_175, gd_in (by omega) (by omega), r2]
    refine Tr_if (fun c1 => ?_) (fun c1 => ?_)
    · rw [List.take_of_length_le (by omega)]
      have hsm := sm_r (nx G s p) hcr
      rw [tmod_e hp0, F_142_50, A_174, gd_in (by omega) (by omega)]
      refine Tr_bq (M_bestOf hG CW.1 CW.2.2.1 hpW CW.2.2.2) ?_
      have hbn : ((bst G s p).toNat : Int) = bst G s p := cast_t hb.1
      have hby := M_chanceBy hG CW hpW (j := (bst G s p).toNat) (by omega)
      rw [hbn] at hby
      refine Tr_bq hby ?_
      have hbm := getD_mem (l := nx G s p) (j := (bst G s p).toNat) (by omega)
      have hlen : 1 ≤ ((nx G s p).length : Int) := by
        have : (nx G s p).length ≠ 0 := fun e => hm (List.length_eq_zero_iff.mp e)
        omega
      have hmx := mix_e (er := er (p % 2)) (x := chB c p ((nx G s p).getD (bst G s p).toNat 0)) (all := sm (chB c p) (nx G s p)) (len := (nx G s p).length) herp.2 (hcr _ hbm) ⟨hlen, by omega⟩ hsm
      rw [r2, gd_nz (by omega), F_142_64, A_184, gd_in (by omega) (by omega), fW 174 (by decide) (by decide), herp.1, chB_c (c := W 183) (c' := c) (fun e0 => hcb _ hbm e0), hmx.1]
      refine Tr_set (fun V1 e1 n1 => hK V1 n1 e1)
    · have hjl : j < (nx G s p).length := by omega
      refine Tr_bq (M_chanceBy hG CW hpW hjl) ?_
      have hmem := getD_mem hjl
      have hst := sm_r ((nx G s p).take j) (fun e he => hcr e (List.mem_of_mem_take he))
      rw [List.length_take] at hst
      have hce := hcr _ hmem
      rw [chB_c (c := W 183) (c' := c) (fun e0 => hcb _ hmem e0), w64_id (by omega) (by omega), w32_id (x := (j : Int) + 1) (by omega) (by omega), show (j : Int) + 1 = ((j + 1 : Nat) : Int) by omega, ← sm_take hjl]
      exact ih (j + 1) (by omega) (by omega)
theorem chS_s {G : GM} {s : SL} {er : Int → Int} {n : Nat} {p : Int} : chS G s er (n + 1) p = if nx G s p = [] then chS G s er n p else ((100 - er (p % 2)) * chB (chS G s er n) p ((nx G s p).getD (bst G s p).toNat 0) + er (p % 2) * (sm (chB (chS G s er n) p) (nx G s p) / (nx G s p).length)) / 100 := rfl
theorem li_L147 {G : GM} {s : SL} {V : ASt} (hG : GOK G) (hCR : CR G s V) {er : Int → Int} (her : ∀ j, 0 ≤ j → j ≤ 1 → V 174 j = er j ∧ 0 ≤ er j ∧ er j ≤ 100) {N : Nat} {x1 x2 x3 : Int} {K139 : ASt → Int → Option (Int × ASt)} {Q : Int → ASt → Prop}
    (hK : ∀ U : ASt, frH V U → hC V (U 183) (chS G s er N) → hC V (U 184) (chS G s er (N + 1)) → Tr (b_M_likely_L295 S0 K139 142 x1 x2 x3 FU U 0) Q) :
    ∀ (n : Nat) (k : Int) (W : ASt), 0 ≤ k → k ≤ V 142 56 → V 142 56 - k < n → frH V W → hC V (W 183) (chS G s er N) → (∀ i, 0 ≤ i → i < k → W 184 (V 179 i) = chS G s er (N + 1) (V 179 i)) → Tr (b_M_likely_L147 S0 K139 142 x1 x2 x3 n W k) Q := by
  have hq := qPos_le hG
  have hQ := hCR.2.1
  have hcl := RM_cl hG hCR.1
  intro n
  induction n with
  | zero => intro k W h1 h2; omega
  | succ n ih =>
    intro k W k0 k1 hn fW hc hd
    have h200 := hQ.2.1
    have hrng : hC V (W 183) (chS G s er N) → ∀ p, wPos V p → 0 ≤ chS G s er (N + 1) p ∧ chS G s er (N + 1) p ≤ 1000000000 := by
      intro hc p hp
      rw [chS_s]
      by_cases hm : nx G s p = []
      · rw [if_pos hm]; exact (hc p hp).2
      · rw [if_neg hm]
        have hb := bst_in hG hcl hCR.2.2.1 (fun q hq => hq.1) hp hm
        have hcr : ∀ e, e ∈ nx G s p → 0 ≤ chB (chS G s er N) p e ∧ chB (chS G s er N) p e ≤ 1000000000 := fun e he => chB_r (fun e0 => (hc e (hcl p hp e he e0)).2)
        have hlen : 1 ≤ ((nx G s p).length : Int) := by
          have : (nx G s p).length ≠ 0 := fun e => hm (List.length_eq_zero_iff.mp e)
          omega
        have h20 := (hCR.1 p hp.1 hp.2.1 hp.2.2).2.2.1
        have hp0 := hp.1
        exact (mix_e (er := er (p % 2)) (her (p % 2) (by omega) (by omega)).2 (hcr _ (getD_mem (by omega))) ⟨hlen, by omega⟩ (sm_r (nx G s p) hcr)).2
    rw [b_M_likely_L147, fW 142 (by decide) (by decide), F_142_55, F_142_63, F_142_64, F_142_51]
    refine Tr_if (fun c => ?_) (fun c => ?_)
    · refine hK W fW hc (fun p hp => ?_)
      rcases hQ.2.2.2.2 p hp.1 hp.2.1 with z | ⟨-, i, i0, i1, i2⟩
      · have := hp.2.2; omega
      · have := hd i i0 (by omega)
        rw [i2] at this
        exact ⟨this, hrng hc p hp⟩
    have hi := hQ.2.2.1 k k0 (by omega)
    have hp : wPos V (V 179 k) := ⟨hi.1, by omega, hi.2.2⟩
    have hrow := hCR.1 _ hp.1 hp.2.1 hp.2.2
    rw [A_179, gd_in (by omega) (by omega), fW 179 (by decide) (by decide), A_183, gd_in (by omega) (by omega), A_184, gd_in (by omega) (by omega), (hc _ hp).1]
    refine Tr_set (fun V1 e1 n1 => ?_)
    have f1 : frH V V1 := fun a a1 a2 => by rw [n1 a a2, fW a a1 a2]
    have c1 : hC V (V1 183) (chS G s er N) := by rw [n1 183 (by decide)]; exact hc
    rw [A_175, gd_in (by omega) (by omega), f1 175 (by decide) (by decide), hrow.2.1]
    have hgo : ∀ U : ASt, (∀ a, a ≠ 184 → U a = V1 a) → (∃ y, U 184 = upI (V1 184) (V 179 k) y ∧ y = chS G s er (N + 1) (V 179 k)) → Tr (b_M_likely_L147 S0 K139 142 x1 x2 x3 n U (w32 (k + 1))) Q := by
      rintro U u1 ⟨y, u2, u3⟩
      rw [w32_id (x := k + 1) (by omega) (by omega)]
      refine ih (k + 1) U (by omega) (by omega) (by omega) (fun a a1 a2 => by rw [u1 a a2, f1 a a1 a2]) (by rw [u1 183 (by decide)]; exact c1) (fun i i0 i1 => ?_)
      rw [u2]
      by_cases z : i = k
      · rw [z, upI_s]; exact u3
      · have hne : V 179 i ≠ V 179 k := fun q => z (hQ.2.2.2.1 i k i0 (by omega) k0 (by omega) q)
        rw [upI_n _ _ hne, e1, upI_n _ _ hne]; exact hd i i0 (by omega)
    refine Tr_if (fun c2 => ?_) (fun c2 => ?_)
    · have hm : nx G s (V 179 k) = [] := List.length_eq_zero_iff.mp (by omega)
      refine hgo V1 (fun _ _ => rfl) ⟨V1 184 (V 179 k), ?_, ?_⟩
      · funext i
        by_cases z : i = V 179 k
        · rw [z, upI_s]
        · rw [upI_n _ _ z]
      · rw [e1, upI_s, chS_s, if_pos hm]
    · have hm : nx G s (V 179 k) ≠ [] := fun e => by rw [e] at c2; exact c2 rfl
      refine li_L198 hG hCR her f1 c1 hp hm (fun U u1 u2 => hgo U u1 ⟨_, u2, by rw [chS_s, if_neg hm]⟩) FU 0 (Nat.zero_le _) (by rw [FU_v]; omega)
theorem li_L295 {G : GM} {s : SL} {V : ASt} (hG : GOK G) (hCR : CR G s V) {c : Int → Int} {x1 x2 x3 : Int} {K139 : ASt → Int → Option (Int × ASt)} {Q : Int → ASt → Prop}
    (hK : ∀ U : ASt, frH V U → hC V (U 183) c → Tr (K139 U (w32 (x3 + 1))) Q) :
    ∀ (n : Nat) (k : Int) (W : ASt), 0 ≤ k → k ≤ V 142 56 → V 142 56 - k < n → frH V W → hC V (W 184) c → (∀ i, 0 ≤ i → i < k → W 183 (V 179 i) = c (V 179 i)) → Tr (b_M_likely_L295 S0 K139 142 x1 x2 x3 n W k) Q := by
  have hq := qPos_le hG
  have hQ := hCR.2.1
  intro n
  induction n with
  | zero => intro k W h1 h2; omega
  | succ n ih =>
    intro k W k0 k1 hn fW hc hd
    have h200 := hQ.2.1
    rw [b_M_likely_L295, fW 142 (by decide) (by decide), F_142_55, F_142_63, F_142_64]
    refine Tr_if (fun cc => ?_) (fun cc => ?_)
    · refine hK W fW (fun p hp => ?_)
      rcases hQ.2.2.2.2 p hp.1 hp.2.1 with z | ⟨-, i, i0, i1, i2⟩
      · have := hp.2.2; omega
      · have := hd i i0 (by omega)
        rw [i2] at this
        exact ⟨this, (hc p hp).2⟩
    have hi := hQ.2.2.1 k k0 (by omega)
    have hp : wPos V (V 179 k) := ⟨hi.1, by omega, hi.2.2⟩
    rw [A_179, gd_in (by omega) (by omega), fW 179 (by decide) (by decide), A_184, gd_in (by omega) (by omega), A_183, gd_in (by omega) (by omega), (hc _ hp).1]
    refine Tr_set (fun V1 e1 n1 => ?_)
    rw [w32_id (x := k + 1) (by omega) (by omega)]
    refine ih (k + 1) V1 (by omega) (by omega) (by omega) (fun a a1 a2 => by rw [n1 a a1, fW a a1 a2]) (by rw [n1 184 (by decide)]; exact hc) (fun i i0 i1 => ?_)
    rw [e1]
    by_cases z : V 179 i = V 179 k
    · rw [z, upI_s]
    · rw [upI_n _ _ z]
      refine hd i i0 ?_
      by_cases zz : i = k
      · exact absurd (by rw [zz]) z
      · omega
theorem li_L139 {G : GM} {s : SL} {V : ASt} (hG : GOK G) (hCR : CR G s V) {er : Int → Int} (her : ∀ j, 0 ≤ j → j ≤ 1 → V 174 j = er j ∧ 0 ≤ er j ∧ er j ≤ 100) {x1 x2 : Int} (hx1 : 0 ≤ x1 ∧ x1 ≤ 40) (hx2 : wPos V x2) :
    ∀ (n N : Nat) (W : ASt), (N : Int) ≤ x1 → x1 - N < n → frH V W → hC V (W 183) (chS G s er N) → Tr (b_M_likely_L139 S0 142 x1 x2 n W N) (fun y U => frH V U ∧ y = chS G s er x1.toNat x2) := by
  intro n
  induction n with
  | zero => intro N W h1 h2; omega
  | succ n ih =>
    intro N W hN hn fW hc
    rw [b_M_likely_L139, F_142_63, A_183]
    refine Tr_if (fun c => ?_) (fun c => ?_)
    · have h1 := hc x2 hx2
      rw [gd_in hx2.1 hx2.2.1, h1.1, w32_id (by omega) (by omega)]
      refine Tr_ret ⟨fW, ?_⟩
      rw [show x1.toNat = N by omega]
    refine li_L147 hG hCR her (fun U fU h183 h184 => ?_) FU 0 W (by omega) hCR.2.1.1 (by rw [FU_v]; have := hCR.2.1.2.1; omega) fW hc (fun i a b => by omega)
    refine li_L295 hG hCR (fun U2 f2 h2 => ?_) FU 0 U (by omega) hCR.2.1.1 (by rw [FU_v]; have := hCR.2.1.2.1; omega) fU h184 (fun i a b => by omega)
    rw [w32_id (by omega) (by omega), show (N : Int) + 1 = ((N + 1 : Nat) : Int) by omega]
    exact ih (N + 1) U2 (by omega) (by omega) f2 h2
theorem li_L39 {G : GM} {b : Int} {s : SL} {V : ASt} (hG : GOK G) (hg : rG G b V) (hCR : CR G s V) {er : Int → Int} (her : ∀ j, 0 ≤ j → j ≤ 1 → V 174 j = er j ∧ 0 ≤ er j ∧ er j ≤ 100) {x1 x2 : Int} (hx1 : 0 ≤ x1 ∧ x1 ≤ 40) (hx2 : wPos V x2) :
    ∀ (n : Nat) (k : Int) (W : ASt), 0 ≤ k → k ≤ V 142 56 → V 142 56 - k < n → frH V W → (∀ i, 0 ≤ i → i < k → W 183 (V 179 i) = ch0 G s (V 179 i)) → Tr (b_M_likely_L39 S0 142 x1 x2 n W k) (fun y U => frH V U ∧ y = chS G s er x1.toNat x2) := by
  have hq := qPos_le hG
  have hQ := hCR.2.1
  have hU := hG.2.2.2.1
  intro n
  induction n with
  | zero => intro k W h1 h2; omega
  | succ n ih =>
    intro k W k0 k1 hn fW hd
    have h200 := hQ.2.1
    have hb := hg.2.1
    rw [b_M_likely_L39, fW 142 (by decide) (by decide), F_142_55, F_142_51, F_142_18]
    refine Tr_if (fun cc => ?_) (fun cc => ?_)
    · refine li_L139 hG hCR her hx1 hx2 FU 0 W (by omega) (by rw [FU_v]; omega) fW (fun p hp => ?_)
      have h0 : 0 ≤ ch0 G s p ∧ ch0 G s p ≤ 1000000000 := by
        unfold ch0
        by_cases z : nx G s p = [] ∧ ((qU G = 2 ∧ p % 2 = 0) ∨ (qU G = 0 ∧ p % 2 = 1))
        · rw [if_pos z]; omega
        · rw [if_neg z]; omega
      rcases hQ.2.2.2.2 p hp.1 hp.2.1 with z | ⟨-, i, i0, i1, i2⟩
      · have := hp.2.2; omega
      · have := hd i i0 (by omega)
        rw [i2] at this
        exact ⟨this, h0⟩
    have hi := hQ.2.2.1 k k0 (by omega)
    have hp : wPos V (V 179 k) := ⟨hi.1, by omega, hi.2.2⟩
    have hrow := hCR.1 _ hp.1 hp.2.1 hp.2.2
    have hJ : ∀ y, (y = 1 ∧ ch0 G s (V 179 k) = 1000000000) ∨ (y = 0 ∧ ch0 G s (V 179 k) = 0) → Tr (b_M_likely_J110 S0 (b_M_likely_L39 S0 142 x1 x2 n) W 142 x1 x2 k (V 179 k) y) (fun y U => frH V U ∧ y = chS G s er x1.toNat x2) := by
      intro y hy
      have hJ2 : Tr (b_M_likely_J130 S0 (b_M_likely_L39 S0 142 x1 x2 n) W 142 x1 x2 k 183 (V 179 k) (ch0 G s (V 179 k))) (fun y U => frH V U ∧ y = chS G s er x1.toNat x2) := by
        unfold b_M_likely_J130
        rw [A_183, gd_in (by omega) (by omega)]
        refine Tr_set (fun V1 e1 n1 => ?_)
        rw [w32_id (x := k + 1) (by omega) (by omega)]
        refine ih (k + 1) V1 (by omega) (by omega) (by omega) (fun a a1 a2 => by rw [n1 a a1, fW a a1 a2]) (fun i i0 i1 => ?_)
        rw [e1]
        by_cases z : V 179 i = V 179 k
        · rw [z, upI_s]
        · rw [upI_n _ _ z]
          refine hd i i0 ?_
          by_cases zz : i = k
          · exact absurd (by rw [zz]) z
          · omega
      unfold b_M_likely_J110
      rw [F_142_63]
      rcases hy with ⟨y1, y2⟩ | ⟨y1, y2⟩
      · rw [y2] at hJ2
        exact Tr_f (by omega) hJ2
      · rw [y2] at hJ2
        exact Tr_t y1 hJ2
    rw [A_179, gd_in (by omega) (by omega), fW 179 (by decide) (by decide), A_175, gd_in (by omega) (by omega), fW 175 (by decide) (by decide), hrow.2.1, A_149, hg.1, gd_in (by omega) (by omega), fW 149 (by decide) (by decide), hg.2.2.2.2.1, tmod_e (by omega)]
    refine Tr_if (fun c1 => ?_) (fun c1 => ?_)
    · have hm : nx G s (V 179 k) = [] := List.length_eq_zero_iff.mp (by omega)
      have h85 : ¬ (qU G = 2 ∧ V 179 k % 2 = 0) → Tr (b_M_likely_J85 S0 (b_M_likely_L39 S0 142 x1 x2 n) W 142 x1 x2 k (V 179 k)) (fun y U => frH V U ∧ y = chS G s er x1.toNat x2) := by
        intro hno
        unfold b_M_likely_J85
        rw [F_142_18, A_149, fW 142 (by decide) (by decide), hg.1, gd_in (by omega) (by omega), fW 149 (by decide) (by decide), hg.2.2.2.2.1, tmod_e (by omega)]
        refine Tr_if (fun c2 => ?_) (fun c2 => ?_)
        · refine Tr_if (fun c3 => ?_) (fun c3 => ?_)
          · exact hJ 1 (Or.inl ⟨rfl, if_pos ⟨hm, Or.inr ⟨c2, c3⟩⟩⟩)
          · exact hJ 0 (Or.inr ⟨rfl, if_neg (by rintro ⟨-, z | z⟩ <;> omega)⟩)
        · exact hJ 0 (Or.inr ⟨rfl, if_neg (by rintro ⟨-, z | z⟩ <;> omega)⟩)
      refine Tr_if (fun c2 => ?_) (fun c2 => ?_)
      · refine Tr_if (fun c3 => ?_) (fun c3 => ?_)
        · exact hJ 1 (Or.inl ⟨rfl, if_pos ⟨hm, Or.inl ⟨c2, c3⟩⟩⟩)
        · exact h85 (fun z => c3 z.2)
      · exact h85 (fun z => c2 z.1)
    · exact hJ 0 (Or.inr ⟨rfl, if_neg (fun z => by rw [z.1] at c1; exact c1 rfl)⟩)
