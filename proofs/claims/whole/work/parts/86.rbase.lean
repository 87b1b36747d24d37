/-! the reference's reader: single steps -/
def rKt (T : Int → Int) (n k : Int) (V : ASt) : Prop := rTk T n (eK T n k.toNat) V ∧ (V 142 8 = 0 → V 142 9 = -1)
theorem rKt_c {T : Int → Int} {n k : Int} {V : ASt} (h : rKt T n k V) (h8 : V 142 8 = 0) : kH T n k = 0 ∧ V 142 4 = kP T n k ∧ V 142 5 = eK T n (k.toNat + 1) ∧
    ((kT T n k = 0 ∧ V 142 3 = 0) ∨ ((kT T n k = 2 ∨ 256 ≤ kT T n k) ∧ V 142 3 = 1 ∧ V 142 6 = 0 ∧ V 142 7 = nm256 (kN T n k) 0 ∧ nmL (kN T n k) ∧ kT T n k = ownT (kN T n k)) ∨ (kT T n k = 3 ∧ V 142 3 = 2 ∧ V 142 6 = kV T n k ∧ 0 ≤ kV T n k ∧ kV T n k ≤ 9999) ∨ (sgn (kT T n k) ∧ V 142 3 = 3 ∧ V 142 6 = kT T n k) ∨ (kT T n k = 1 ∧ V 142 3 = 3 ∧ ¬ sgn (V 142 6))) := by
  rcases h.1 with ⟨h1, h2, h3⟩ | ⟨h1, h2, h3, h4, h5⟩
  · omega
  · exact ⟨h1, h3, h4, h5⟩
theorem rKt_h {T : Int → Int} {n k : Int} {V : ASt} (h : rKt T n k V) (h8 : V 142 8 ≠ 0) : V 142 8 = 1 ∧ V 142 9 = kP T n k ∧ kH T n k = 1 := by
  rcases h.1 with ⟨h1, h2, h3⟩ | ⟨h1, h2, -⟩
  · exact ⟨h2, h3, h1⟩
  · exact absurd h2 h8
/-- a token at which fault is found ahead is a bad one -/
theorem kH_1 {T : Int → Int} {n k : Int} (h : kH T n k = 1) : kT T n k = 1 := by
  have h8 := tk_c8 T n (eK T n k.toNat)
  unfold kH tkH at h
  unfold kT
  rcases h8 with ⟨c, h1, -⟩ | ⟨c, hor, j, h1, -⟩ | ⟨c, cl, j, y, h1, -⟩ | ⟨c, cl, j, y, h1, -⟩ | ⟨c, cl, cd, j, y, h1, -⟩ | ⟨c, cl, cd, j, y, h1, -⟩ | ⟨c, cl, cd, -⟩
  · rw [if_pos c] at h; exact absurd h (by decide)
  · exact h1
  · exact h1
  · rw [if_neg (Int.not_le.mpr c), if_pos (Or.inl cl), if_neg j, if_pos cl, if_neg y] at h; exact absurd h (by decide)
  · exact h1
  · rw [if_neg (Int.not_le.mpr c), if_pos (Or.inr cd), if_neg j, if_neg cl, if_neg y] at h; exact absurd h (by decide)
  · rw [if_neg (Int.not_le.mpr c), if_neg (fun z => z.elim cl cd)] at h; exact absurd h (by decide)
theorem M_isSign {T : Int → Int} {n k c : Int} {V : ASt} (h : rKt T n k V) (h8 : V 142 8 = 0) (hc : sgn c) : f_M_isSign S0 V 142 c = some (if kT T n k = c then 1 else 0, V) := by
  obtain ⟨-, -, -, h4⟩ := rKt_c h h8
  have hc' := hc
  unfold sgn at hc'
  unfold f_M_isSign
  rw [gd_t O_142]
  rcases h4 with ⟨a, b⟩ | ⟨a, b, -⟩ | ⟨a, b, -⟩ | ⟨a, b, d⟩ | ⟨a, b, d⟩
  · rw [b, if_neg (by decide), if_neg (by omega)]
  · rw [b, if_neg (by decide), if_neg (by omega)]
  · rw [b, if_neg (by decide), if_neg (by omega)]
  · rw [b, if_pos rfl, d]
    by_cases z : kT T n k = c
    · rw [if_pos z, if_pos z]
    · rw [if_neg z, if_neg z]
  · rw [b, if_pos rfl, if_neg (fun z => d (by rw [z]; exact hc)), if_neg (by omega)]
/-- the own word of a number, as the reference keeps it -/
theorem own_256 : ∀ i : Nat, i < 23 → ∀ ls : List Int, nmL ls → (nm256 ls 0 = nm256 (ownW.getD i []) 0 ↔ ls = ownW.getD i []) := by
  intro i hi ls hl
  have hm : ownW.getD i [] ∈ ownW := by
    have hj : i < ownW.length := hi
    rw [List.getD_eq_getElem?_getD, List.getElem?_eq_getElem hj]
    exact List.getElem_mem _
  exact ⟨fun h => nm256_i hl (ownW_nm _ hm) h, fun h => by rw [h]⟩
theorem ownT_i : ∀ i : Nat, i < 23 → ownT (ownW.getD i []) = 256 + (i : Int) := by decide
theorem ownI_m (ls : List Int) : ∀ (r : List (List Int)) (i j : Int), ownI ls r i = j → j ≠ 2 → i ≤ j ∧ ls = r.getD (j - i).toNat [] := by
  intro r
  induction r with
  | nil => intro i j h h2; exact absurd h.symm h2
  | cons w r ih =>
    intro i j h h2
    rw [ownI] at h
    by_cases c : ls = w
    · rw [if_pos c] at h
      subst h
      exact ⟨Int.le_refl _, by rw [show (i - i).toNat = 0 by omega]; exact c⟩
    · rw [if_neg c] at h
      obtain ⟨a, b⟩ := ih (i + 1) j h h2
      refine ⟨by omega, ?_⟩
      rw [show (j - i).toNat = (j - (i + 1)).toNat + 1 by omega]
      exact b
theorem ownT_iff {ls : List Int} {i : Nat} (hi : i < 23) : ownT ls = 256 + (i : Int) ↔ ls = ownW.getD i [] := by
  constructor
  · intro h
    have := (ownI_m ls ownW 256 (256 + (i : Int)) h (by omega)).2
    rw [show (256 + (i : Int) - 256).toNat = i by omega] at this
    exact this
  · intro h
    rw [h]; exact ownT_i i hi
theorem M_isWord {T : Int → Int} {n k x : Int} {i : Nat} {V : ASt} (h : rKt T n k V) (h8 : V 142 8 = 0) (hi : i < 23) (hx : x = nm256 (ownW.getD i []) 0) : f_M_isWord S0 V 142 x = some (if kT T n k = 256 + (i : Int) then 1 else 0, V) := by
  obtain ⟨-, -, -, h4⟩ := rKt_c h h8
  unfold f_M_isWord
  rw [gd_t O_142]
  rcases h4 with ⟨a, b⟩ | ⟨a, b, c, d, e, f⟩ | ⟨a, b, -⟩ | ⟨a, b, d⟩ | ⟨a, b, d⟩
  · rw [b, if_neg (by decide), if_neg (by omega)]
  · rw [b, if_pos rfl, d, hx]
    by_cases z : kT T n k = 256 + (i : Int)
    · rw [if_pos z, if_pos ((cmp_0 _ _).mpr ?_)]
      rw [f, ownT_iff hi] at z
      rw [z]
    · rw [if_neg z, if_neg (fun y => z ?_)]
      rw [f, ownT_iff hi]
      exact (own_256 i hi _ e).mp ((cmp_0 _ _).mp y)
  · rw [b, if_neg (by decide), if_neg (by omega)]
  · unfold sgn at a
    rw [b, if_neg (by decide), if_neg (by omega)]
  · rw [b, if_neg (by decide), if_neg (by omega)]
theorem M_isOwn {T : Int → Int} {n k : Int} {V : ASt} (h : rKt T n k V) (h8 : V 142 8 = 0) (h3 : V 142 3 = 1) : f_M_isOwn S0 V 142 (V 142 7) = some (if kT T n k = 2 then 0 else 1, V) := by
  obtain ⟨-, -, -, h4⟩ := rKt_c h h8
  rcases h4 with ⟨a, b⟩ | ⟨a, b, c, d, e, f⟩ | ⟨a, b, -⟩ | ⟨a, b, -⟩ | ⟨a, b, -⟩
  · omega
  · have key : ∀ i : Nat, i < 23 → ∀ y : Int, y = nm256 (ownW.getD i []) 0 → (cmp64 (nm256 (kN T n k) 0) y = 0 ↔ kT T n k = 256 + (i : Int)) := fun i hi y hy => by
      rw [cmp_0, hy, own_256 i hi _ e, f, ownT_iff hi]
    have hr := ownT_r (kN T n k)
    rw [← f] at hr
    unfold f_M_isOwn
    rw [gd_t O_142, d]
    have step : ∀ (i : Nat) (y : Int) (B : Option (Int × ASt)), i < 23 → y = nm256 (ownW.getD i []) 0 → (kT T n k ≠ 256 + (i : Int) → B = some (if kT T n k = 2 then 0 else 1, V)) → (if cmp64 (nm256 (kN T n k) 0) y = 0 then some ((1 : Int), V) else B) = some (if kT T n k = 2 then 0 else 1, V) := by
      intro i y B hi hy hB
      by_cases z : kT T n k = 256 + (i : Int)
      · rw [if_pos ((key i hi y hy).mpr z), if_neg (by omega)]
      · rw [if_neg (fun q => z ((key i hi y hy).mp q))]; exact hB z
    refine step 0 _ _ (by decide) (by decide) (fun q0 => step 1 _ _ (by decide) (by decide) (fun q1 => step 2 _ _ (by decide) (by decide) (fun q2 => step 3 _ _ (by decide) (by decide) (fun q3 => step 4 _ _ (by decide) (by decide) (fun q4 => step 5 _ _ (by decide) (by decide) (fun q5 => step 6 _ _ (by decide) (by decide) (fun q6 => step 7 _ _ (by decide) (by decide) (fun q7 => step 8 _ _ (by decide) (by decide) (fun q8 => step 9 _ _ (by decide) (by decide) (fun q9 => step 10 _ _ (by decide) (by decide) (fun q10 => step 11 _ _ (by decide) (by decide) (fun q11 => step 12 _ _ (by decide) (by decide) (fun q12 => step 13 _ _ (by decide) (by decide) (fun q13 => step 14 _ _ (by decide) (by decide) (fun q14 => step 15 _ _ (by decide) (by decide) (fun q15 => step 16 _ _ (by decide) (by decide) (fun q16 => step 17 _ _ (by decide) (by decide) (fun q17 => step 18 _ _ (by decide) (by decide) (fun q18 => step 19 _ _ (by decide) (by decide) (fun q19 => step 20 _ _ (by decide) (by decide) (fun q20 => step 21 _ _ (by decide) (by decide) (fun q21 => step 22 _ _ (by decide) (by decide) (fun q22 => ?_)))))))))))))))))))))))
    rw [if_pos (show kT T n k = 2 by omega)]
  · omega
  · omega
  · omega
/-- the reference steps to the next token -/
theorem M_next {T : Int → Int} {n N k : Int} {V : ASt} (hX : LX T n V) (hL : lstK T n N) (hk : 0 ≤ k ∧ k < N) (h : rKt T n k V) (h8 : V 142 8 = 0) : Tr (f_M_ahead S0 V 142) (fun _ U => frA V U ∧ rKt T n (k + 1) U) := by
  obtain ⟨-, -, h5, -⟩ := rKt_c h h8
  have hn := hX.2.1
  have he := eK_all (T := T) hn.1 (k.toNat + 1)
  have := Tr_KP (M_ahead hX h5 h8 he) (KP_ahead (fun _ => h.2 h8))
  unfold rKt
  rw [show (k + 1).toNat = k.toNat + 1 by omega]
  exact Tr_mono this (fun _ U hU => ⟨hU.1.1, hU.1.2, hU.2⟩)
