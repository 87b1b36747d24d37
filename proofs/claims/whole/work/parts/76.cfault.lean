/-! the class's reader behind a fault; brackets; one step of the grammar -/
/-! what the class does in the midst of its methods, as functions of their own: a bracket's end, a comparison -/
theorem bnd_as (o : Option (Int × ASt)) (f k : Int → ASt → Option (Int × ASt)) : bnd (bnd o f) k = bnd o (fun r V => bnd (f r V) k) := by
  cases o with
  | none => rfl
  | some q => rfl
theorem bnd_gd (b : Bool) (o : Option (Int × ASt)) (k : Int → ASt → Option (Int × ASt)) : bnd (gd b o) k = gd b (bnd o k) := by
  cases b
  · rfl
  · rfl
theorem bnd_if (c : Prop) [Decidable c] (a b : Option (Int × ASt)) (k : Int → ASt → Option (Int × ASt)) : bnd (if c then a else b) k = if c then bnd a k else bnd b k := by
  by_cases h : c
  · rw [if_pos h, if_pos h]
  · rw [if_neg h, if_neg h]
noncomputable def cClose (V : ASt) (w : Int) : Option (Int × ASt) := bnd (f_Reader_take S0 V 35 w) (fun _ V2 => wV (aset V2 35 5 (w32 ((V2 35 5) - 1))) (fun V4 => some (0, V4)))
theorem Tr_cl {K : ASt → Option (Int × ASt)} {P Q : Int → ASt → Prop} {V : ASt} {w : Int} (h : Tr (cClose V w) P) (hk : ∀ r U, P r U → Tr (K U) Q) : Tr (bnd (f_Reader_take S0 V 35 w) (fun _ V2 => wV (aset V2 35 5 (w32 ((V2 35 5) - 1))) (fun V4 => K V4))) Q := by
  have e : bnd (f_Reader_take S0 V 35 w) (fun _ V2 => wV (aset V2 35 5 (w32 ((V2 35 5) - 1))) (fun V4 => K V4)) = bnd (cClose V w) (fun _ V4 => K V4) := by
    unfold cClose
    rw [bnd_as]
    rfl
  rw [e]
  exact Tr_bnd h (fun r U hp => hk r U hp)
noncomputable def cCmp (R : Nat → ASt → Int → Int → Option (Int × ASt)) (V : ASt) : Option (Int × ASt) := bnd (R 4 V 35 0) (fun _ V2 => bnd (f_Reader_comparisonTold S0 V2 35) (fun r4 V5 => if r4 = (-1) then (bnd (f_Reader_fail S0 V5 35 1) (fun _ V19 => some (0, V19))) else (bnd (f_Reader_step S0 V5 35) (fun _ V8 => bnd (R 4 V8 35 0) (fun _ V11 => gd (isO S0 (V11 35 4) 1) (gd (isO S0 (aF S0 (V11 35 4) 5) 8) (bnd (f_Tests_emit S0 V11 (aF S0 (V11 35 4) 5) r4) (fun _ V15 => some (0, V15)))))))))
theorem Tr_cm {R : Nat → ASt → Int → Int → Option (Int × ASt)} {K : ASt → Option (Int × ASt)} {P Q : Int → ASt → Prop} {V : ASt} (h : Tr (cCmp R V) P) (hk : ∀ r U, P r U → Tr (K U) Q) : Tr (bnd (R 4 V 35 0) (fun _ V2 => bnd (f_Reader_comparisonTold S0 V2 35) (fun r4 V5 => if r4 = (-1) then (bnd (f_Reader_fail S0 V5 35 1) (fun _ V19 => K V19)) else (bnd (f_Reader_step S0 V5 35) (fun _ V8 => bnd (R 4 V8 35 0) (fun _ V11 => gd (isO S0 (V11 35 4) 1) (gd (isO S0 (aF S0 (V11 35 4) 5) 8) (bnd (f_Tests_emit S0 V11 (aF S0 (V11 35 4) 5) r4) (fun _ V15 => K V15))))))))) Q := by
  have e : bnd (R 4 V 35 0) (fun _ V2 => bnd (f_Reader_comparisonTold S0 V2 35) (fun r4 V5 => if r4 = (-1) then (bnd (f_Reader_fail S0 V5 35 1) (fun _ V19 => K V19)) else (bnd (f_Reader_step S0 V5 35) (fun _ V8 => bnd (R 4 V8 35 0) (fun _ V11 => gd (isO S0 (V11 35 4) 1) (gd (isO S0 (aF S0 (V11 35 4) 5) 8) (bnd (f_Tests_emit S0 V11 (aF S0 (V11 35 4) 5) r4) (fun _ V15 => K V15)))))))) = bnd (cCmp R V) (fun _ V4 => K V4) := by
    unfold cCmp
    simp only [bnd_as, bnd_gd, bnd_if, bnd_e]
  rw [e]
  exact Tr_bnd h (fun r U hp => hk r U hp)
theorem C_factor {T : Int → Int} {n N g k : Int} {V : ASt} (hX : CX T n N g V) (h3 : V 35 3 = k) (hk : 0 ≤ k ∧ k ≤ N) : f_Reader_factorTold S0 V 35 = some (if kT T n k = 37 then -6 else if kT T n k = 42 then -4 else if kT T n k = 47 then -5 else -1, V) := by
  unfold f_Reader_factorTold
  rw [gd_t O_35, C_type hX h3 hk, bnd_e]
  by_cases a : kT T n k = 37
  · rw [if_pos a, if_pos a]
  rw [if_neg a, if_neg a]
  by_cases b : kT T n k = 42
  · rw [if_pos b, if_pos b]
  rw [if_neg b, if_neg b]
  by_cases c : kT T n k = 47
  · rw [if_pos c, if_pos c]
  · rw [if_neg c, if_neg c]
theorem C_comp {T : Int → Int} {n N g k : Int} {V : ASt} (hX : CX T n N g V) (h3 : V 35 3 = k) (hk : 0 ≤ k ∧ k ≤ N) : f_Reader_comparisonTold S0 V 35 = some (if kT T n k = 60 then -9 else if kT T n k = 61 then -11 else if kT T n k = 62 then -10 else -1, V) := by
  unfold f_Reader_comparisonTold
  rw [gd_t O_35, C_type hX h3 hk, bnd_e]
  by_cases a : kT T n k = 60
  · rw [if_pos a, if_pos a]
  rw [if_neg a, if_neg a]
  by_cases b : kT T n k = 61
  · rw [if_pos b, if_pos b]
  rw [if_neg b, if_neg b]
  by_cases c : kT T n k = 62
  · rw [if_pos c, if_pos c]
  · rw [if_neg c, if_neg c]
-- ---- behind a fault
def FQ (T : Int → Int) (n N g kd pc : Int) (V : ASt) (U : ASt) : Prop := FM T n N g kd pc U ∧ frG g V U
theorem FQ_tr {T : Int → Int} {n N g kd pc : Int} {V U W : ASt} (h : FQ T n N g kd pc V U) (h2 : FQ T n N g kd pc U W) : FQ T n N g kd pc V W := ⟨h2.1, frG_tr h.2 h2.2⟩
theorem F_part {T : Int → Int} {n N g kd pc : Int} {V : ASt} {u : Nat} (hg : isGm g) (hN : lsT (tkK T n) N) (h : FM T n N g kd pc V) : Tr (f_RD S0 (u + 1) 6 V 35 0) (fun _ U => FQ T n N g kd pc V U) := by
  have hN' : kT T n N = 0 ∨ kT T n N = 1 := hN
  show Tr (f_Reader_readPart S0 (f_RD S0 u) V 35) _
  unfold f_Reader_readPart
  rw [gd_t O_35]
  refine Tr_bq (FM_type h) ?_
  refine Tr_f (by omega) (Tr_f (by omega) (Tr_f (by omega) (Tr_f (by omega) (Tr_f (by omega) (Tr_f (by omega) (Tr_f (by omega) (Tr_f (by omega) ?_)))))))
  refine Tr_bnd (C_failM hg h) ?_
  rintro _ U hU
  exact Tr_ret hU
theorem F_prod {T : Int → Int} {n N g kd pc : Int} {V : ASt} {u : Nat} (hg : isGm g) (hN : lsT (tkK T n) N) (h : FM T n N g kd pc V) : Tr (f_RD S0 (u + 1 + 1) 5 V 35 0) (fun _ U => FQ T n N g kd pc V U) := by
  have hN' : kT T n N = 0 ∨ kT T n N = 1 := hN
  show Tr (f_Reader_readProduct S0 (f_RD S0 (u + 1)) V 35) _
  unfold f_Reader_readProduct
  rw [gd_t O_35]
  refine Tr_bnd (F_part hg hN h) ?_
  rintro _ U hU
  rw [show FU = 99999 + 1 from rfl, b_Reader_readProduct_L6]
  refine Tr_f (by decide) (Tr_bq (C_factor hU.1.1 hU.1.2.2.2.2 ⟨hU.1.1.2.2.2.1, Int.le_refl N⟩) ?_)
  rw [if_neg (show ¬ (kT T n N = 37) by omega), if_neg (show ¬ (kT T n N = 42) by omega), if_neg (show ¬ (kT T n N = 47) by omega)]
  exact Tr_t rfl (Tr_ret hU)
theorem F_sum {T : Int → Int} {n N g kd pc : Int} {V : ASt} {u : Nat} (hg : isGm g) (hN : lsT (tkK T n) N) (h : FM T n N g kd pc V) : Tr (f_RD S0 (u + 1 + 1 + 1) 4 V 35 0) (fun _ U => FQ T n N g kd pc V U) := by
  have hN' : kT T n N = 0 ∨ kT T n N = 1 := hN
  show Tr (f_Reader_readSum S0 (f_RD S0 (u + 1 + 1)) V 35) _
  unfold f_Reader_readSum
  rw [gd_t O_35]
  refine Tr_bnd (F_prod hg hN h) ?_
  rintro _ U hU
  rw [show FU = 99999 + 1 from rfl, b_Reader_readSum_L6]
  refine Tr_f (by decide) (Tr_bq (FM_type hU.1) (Tr_f (by omega) (Tr_bq (FM_type hU.1) (Tr_f (by omega) (Tr_ret hU)))))
theorem F_cmp {T : Int → Int} {n N g kd pc : Int} {V : ASt} {u : Nat} (hg : isGm g) (hN : lsT (tkK T n) N) (h : FM T n N g kd pc V) : Tr (cCmp (f_RD S0 (u + 1 + 1 + 1)) V) (fun _ U => FQ T n N g kd pc V U) := by
  have hN' : kT T n N = 0 ∨ kT T n N = 1 := hN
  unfold cCmp
  refine Tr_bnd (F_sum hg hN h) ?_
  rintro _ U hU
  refine Tr_bq (C_comp hU.1.1 hU.1.2.2.2.2 ⟨hU.1.1.2.2.2.1, Int.le_refl N⟩) ?_
  rw [if_neg (show ¬ (kT T n N = 60) by omega), if_neg (show ¬ (kT T n N = 61) by omega), if_neg (show ¬ (kT T n N = 62) by omega)]
  refine Tr_t rfl (Tr_bnd (C_failM hg hU.1) ?_)
  rintro _ W hW
  exact Tr_ret (FQ_tr hU hW)
theorem F_fact {T : Int → Int} {n N g kd pc : Int} {V : ASt} {u : Nat} (hg : isGm g) (hN : lsT (tkK T n) N) (h : FM T n N g kd pc V) : Tr (f_RD S0 (u + 1 + 1 + 1 + 1) 2 V 35 0) (fun _ U => FQ T n N g kd pc V U) := by
  have hN' : kT T n N = 0 ∨ kT T n N = 1 := hN
  show Tr (f_Reader_readFact S0 (f_RD S0 (u + 1 + 1 + 1)) V 35) _
  unfold f_Reader_readFact
  rw [gd_t O_35, show FU = 99999 + 1 from rfl, b_Reader_readFact_L4]
  refine Tr_f (by decide) (Tr_bq (FM_type h) (Tr_f (by omega) ?_))
  unfold b_Reader_readFact_J41
  refine Tr_bq (FM_type h) (Tr_f (by omega) (Tr_bq (FM_type h) (Tr_f (by omega) ?_)))
  refine Tr_cm (F_cmp hg hN h) ?_
  rintro _ U hU
  unfold b_Reader_readFact_J148
  exact Tr_t rfl (Tr_ret hU)
theorem F_both {T : Int → Int} {n N g kd pc : Int} {V : ASt} {u : Nat} (hg : isGm g) (hN : lsT (tkK T n) N) (h : FM T n N g kd pc V) : Tr (f_RD S0 (u + 1 + 1 + 1 + 1 + 1) 1 V 35 0) (fun _ U => FQ T n N g kd pc V U) := by
  have hN' : kT T n N = 0 ∨ kT T n N = 1 := hN
  show Tr (f_Reader_readBoth S0 (f_RD S0 (u + 1 + 1 + 1 + 1)) V 35) _
  unfold f_Reader_readBoth
  rw [gd_t O_35]
  refine Tr_bnd (F_fact hg hN h) ?_
  rintro _ U hU
  rw [show FU = 99999 + 1 from rfl, b_Reader_readBoth_L6]
  exact Tr_f (by decide) (Tr_bq (FM_type hU.1) (Tr_f (by omega) (Tr_ret hU)))
theorem F_test {T : Int → Int} {n N g kd pc : Int} {V : ASt} {u : Nat} (hg : isGm g) (hN : lsT (tkK T n) N) (h : FM T n N g kd pc V) : Tr (f_RD S0 (u + 1 + 1 + 1 + 1 + 1 + 1) 0 V 35 0) (fun _ U => FQ T n N g kd pc V U) := by
  have hN' : kT T n N = 0 ∨ kT T n N = 1 := hN
  show Tr (f_Reader_readTest S0 (f_RD S0 (u + 1 + 1 + 1 + 1 + 1)) V 35) _
  unfold f_Reader_readTest
  rw [gd_t O_35]
  refine Tr_bnd (F_both hg hN h) ?_
  rintro _ U hU
  rw [show FU = 99999 + 1 from rfl, b_Reader_readTest_L6]
  exact Tr_f (by decide) (Tr_bq (FM_type hU.1) (Tr_f (by omega) (Tr_ret hU)))
/-- whatever is read behind a fault: it stays -/
theorem F_any {T : Int → Int} {n N g kd pc : Int} {V : ASt} {u idx : Nat} (hg : isGm g) (hN : lsT (tkK T n) N) (h : FM T n N g kd pc V) (hi : idx ≤ 6 ∧ idx ≠ 3) (hu : 7 - idx ≤ u) : Tr (f_RD S0 u idx V 35 0) (fun _ U => FQ T n N g kd pc V U) := by
  have : idx = 0 ∨ idx = 1 ∨ idx = 2 ∨ idx = 4 ∨ idx = 5 ∨ idx = 6 := by omega
  rcases this with e | e | e | e | e | e <;> subst e
  · obtain ⟨m, em⟩ : ∃ m, u = m + 1 + 1 + 1 + 1 + 1 + 1 := ⟨u - 6, by omega⟩
    subst em; exact F_test hg hN h
  · obtain ⟨m, em⟩ : ∃ m, u = m + 1 + 1 + 1 + 1 + 1 := ⟨u - 5, by omega⟩
    subst em; exact F_both hg hN h
  · obtain ⟨m, em⟩ : ∃ m, u = m + 1 + 1 + 1 + 1 := ⟨u - 4, by omega⟩
    subst em; exact F_fact hg hN h
  · obtain ⟨m, em⟩ : ∃ m, u = m + 1 + 1 + 1 := ⟨u - 3, by omega⟩
    subst em; exact F_sum hg hN h
  · obtain ⟨m, em⟩ : ∃ m, u = m + 1 + 1 := ⟨u - 2, by omega⟩
    subst em; exact F_prod hg hN h
  · obtain ⟨m, em⟩ : ∃ m, u = m + 1 := ⟨u - 1, by omega⟩
    subst em; exact F_part hg hN h
theorem FMo5 {T : Int → Int} {n N g kd pc x : Int} {V U : ASt} (hg : isGm g) (h : FM T n N g kd pc V) (e : U 35 = upI (V 35) 5 x) (hf : ∀ a, a ≠ 35 → U a = V a) : FQ T n N g kd pc V U := ⟨FM_35 hg h hf (fun k _ k5 => by rw [e, upI_n _ _ k5]) (by rw [e, upI_n _ _ (by decide)]; exact h.2.2.2.2), frG_35 hg hf (fun k _ _ _ k5 => by rw [e, upI_n _ _ k5])⟩
theorem C_closeM {T : Int → Int} {n N g kd pc w : Int} {V : ASt} (hg : isGm g) (hN : lsT (tkK T n) N) (h : FM T n N g kd pc V) (hw : w ≠ 0 ∧ w ≠ 1) : Tr (cClose V w) (fun _ U => FQ T n N g kd pc V U) := by
  unfold cClose
  refine Tr_bnd (C_takeM hg hN h hw) ?_
  rintro _ U hU
  exact Tr_set (fun W e n1 => Tr_ret (FQ_tr hU (FMo5 hg hU.1 e n1)))
-- ---- in good order
def nmH (ns : List (List Int)) (g : Int) (V : ASt) : Prop := V g 1 = ns.length ∧ ns.length ≤ 2 ∧ ∀ i : Nat, i < ns.length → V (g + 5) i = nm32 (ns.getD i []) 33554432 ∧ nmL (ns.getD i [])
theorem nmH_k {ns : List (List Int)} {g : Int} {V U : ASt} (hg : isGm g) (h : nmH ns g V) (f : frG g V U) : nmH ns g U := by
  have := gm_r hg
  unfold nmH at *
  rw [f.1 g (by omega) (by omega) (by omega), f.1 (g + 5) (by omega) (by omega) (by omega)]; exact h
def prC (T : Int → Int) (n N g : Int) (ns : List (List Int)) (k o : Int) (V : ASt) : Prop := (0 ≤ k ∧ k ≤ N) ∧ (0 ≤ o ∧ o ≤ 8) ∧ CX T n N g V ∧ V 35 0 = 0 ∧ V 35 3 = k ∧ V 35 5 = o ∧ V (g + 1) 2 ≤ k ∧ nmH ns g V
def PST (T : Int → Int) (n N g : Int) (r : R3) (V U : ASt) : Prop := frG g V U ∧ (r.1 = 0 → CX T n N g U ∧ U 35 0 = 0 ∧ U 35 1 = V 35 1 ∧ U 35 3 = r.2.1 ∧ U 35 5 = V 35 5 ∧ cdA g V U r.2.2.2) ∧ (r.1 ≠ 0 → FM T n N g r.1 r.2.1 U)
theorem PST_fl {T : Int → Int} {n N g kd k : Int} {V U : ASt} (hkd : kd ≠ 0) (h : FQ T n N g kd (kP T n k) V U) : PST T n N g (flR (tkK T n) kd k) V U := ⟨h.2, fun z => absurd z hkd, fun _ => h.1⟩
theorem PST_sq {T : Int → Int} {n N g : Int} {ra : R3} {f : Int → R3} {V U W : ASt} (h1 : ra.1 = 0) (h : PST T n N g ra V U) (h2 : PST T n N g (f ra.2.1) U W) : PST T n N g (sqR ra f) V W := by
  rw [sqR_o h1]
  obtain ⟨a1, a2, -⟩ := h
  obtain ⟨b1, b2, b3⟩ := h2
  obtain ⟨p1, p2, p3, p4, p5, p6⟩ := a2 h1
  by_cases c : (f ra.2.1).1 = 0
  · rw [if_pos c]
    obtain ⟨q1, q2, q3, q4, q5, q6⟩ := b2 c
    exact ⟨frG_tr a1 b1, fun _ => ⟨q1, q2, by rw [q3, p3], q4, by rw [q5, p5], cdA_tr p6 q6⟩, fun z => absurd rfl z⟩
  · rw [if_neg c]
    exact ⟨frG_tr a1 b1, fun z => absurd z c, b3⟩
theorem PST_sqF {T : Int → Int} {n N g : Int} {ra : R3} {f : Int → R3} {V U W : ASt} (h1 : ra.1 ≠ 0) (h : PST T n N g ra V U) (h2 : FQ T n N g ra.1 ra.2.1 U W) : PST T n N g (sqR ra f) V W := by
  rw [sqR_f h1]
  exact ⟨frG_tr h.1 h2.2, fun z => absurd z h1, fun _ => h2.1⟩
/-- a step ahead of it changes nothing else -/
theorem PST_st {T : Int → Int} {n N g x : Int} {r : R3} {V U W : ASt} (hg : isGm g) (e : U 35 = upI (V 35) 3 x) (hf : ∀ a, a ≠ 35 → U a = V a) (h : PST T n N g r U W) : PST T n N g r V W := by
  have hgr := gm_r hg
  obtain ⟨a1, a2, a3⟩ := h
  refine ⟨frG_tr (frG_35 hg hf (fun k _ _ k3 _ => by rw [e, upI_n _ _ k3])) a1, fun z => ?_, a3⟩
  obtain ⟨p1, p2, p3, p4, p5, p6⟩ := a2 z
  refine ⟨p1, p2, by rw [p3, e, upI_n _ _ (by decide)], p4, by rw [p5, e, upI_n _ _ (by decide)], ?_⟩
  unfold cdA at *
  rw [hf (g + 1) (by omega), hf (g + 2) (by omega)] at p6
  exact p6
theorem prC_st {T : Int → Int} {n N g k o : Int} {ns : List (List Int)} {V U : ASt} (hg : isGm g) (h : prC T n N g ns k o V) (hk : k < N) (e : U 35 = upI (V 35) 3 (k + 1)) (hf : ∀ a, a ≠ 35 → U a = V a) : prC T n N g ns (k + 1) o U := by
  have hgr := gm_r hg
  obtain ⟨h1, h2, h3, h4, h5, h6, h7, h8⟩ := h
  refine ⟨by omega, h2, CX_35 hg h3 hf (by rw [e, upI_n _ _ (by decide)]), by rw [e, upI_n _ _ (by decide)]; exact h4, by rw [e, upI_s], by rw [e, upI_n _ _ (by decide)]; exact h6, by rw [hf (g + 1) (by omega)]; omega, nmH_k hg h8 (frG_35 hg hf (fun k _ _ k3 _ => by rw [e, upI_n _ _ k3]))⟩
/-- behind a result that is good -/
theorem prC_ok {T : Int → Int} {n N g k o s : Int} {ns : List (List Int)} {r : R3} {V U : ASt} (hg : isGm g) (h : prC T n N g ns k o V) (ha : adv N k s r) (hs : 0 ≤ s) (hr : r.1 = 0) (hp : PST T n N g r V U) : prC T n N g ns r.2.1 o U := by
  obtain ⟨h1, h2, h3, h4, h5, h6, h7, h8⟩ := h
  obtain ⟨p1, p2, p3, p4, p5, p6⟩ := hp.2.1 hr
  have hv := ha hr
  refine ⟨by omega, h2, p1, p2, p4, by rw [p5]; exact h6, ?_, nmH_k hg h8 hp.1⟩
  rw [p6.1]; omega
theorem C_open {T : Int → Int} {n N g k o w : Int} {ns : List (List Int)} {V : ASt} (hg : isGm g) (hN : lsT (tkK T n) N) (h : prC T n N g ns k o V) (hw : w ≠ 0 ∧ w ≠ 1) :
    Tr (f_Reader_openBracket S0 V 35 w) (fun _ U => (kT T n k = w ∧ o ≠ 8 ∧ k < N ∧ prC T n N g ns (k + 1) (o + 1) U ∧ U 35 = upI (upI (V 35) 3 (k + 1)) 5 (o + 1) ∧ ∀ a, a ≠ 35 → U a = V a) ∨ (kT T n k = w ∧ o = 8 ∧ FQ T n N g 5 (kP T n k) V U) ∨ (kT T n k ≠ w ∧ FQ T n N g 1 (kP T n k) V U)) := by
  have hgr := gm_r hg
  have h' := h
  obtain ⟨h1, h2, h3, h4, h5, h6, h7, h8⟩ := h
  unfold f_Reader_openBracket
  rw [gd_t O_35]
  refine Tr_bq (C_type h3 h5 h1) ?_
  rw [h6]
  refine Tr_if (fun c => ?_) (fun c => ?_)
  · have hkN : k < N := lt_of_t hN h1.2 (show kT T n k ≠ 0 by omega) (show kT T n k ≠ 1 by omega)
    refine Tr_if (fun d => ?_) (fun d => ?_)
    · refine Tr_bnd (C_step h3 h5 ⟨h1.1, hkN⟩) ?_
      rintro _ U ⟨u4, u5⟩
      unfold b_Reader_openBracket_J37
      have e5 : U 35 5 = o := by rw [u4, upI_n _ _ (by decide)]; exact h6
      rw [e5, w32_id (by omega) (by omega)]
      refine Tr_set (fun W e n1 => Tr_ret (Or.inl ⟨c, by omega, hkN, ?_, by rw [e, u4], fun a ha => by rw [n1 a ha, u5 a ha]⟩))
      obtain ⟨q1, q2, q3, q4, q5, q6, q7, q8⟩ := prC_st hg h' hkN u4 u5
      exact ⟨q1, by omega, CX_35 hg q3 n1 (by rw [e, upI_n _ _ (by decide)]), by rw [e, upI_n _ _ (by decide)]; exact q4, by rw [e, upI_n _ _ (by decide)]; exact q5, by rw [e, upI_s], by rw [n1 (g + 1) (by omega)]; exact q7, nmH_k hg q8 (frG_35 hg n1 (fun k _ _ _ k5 => by rw [e, upI_n _ _ k5]))⟩
    · refine Tr_bnd (C_failN hg h3 h5 h1 h4 (by decide)) ?_
      rintro _ U hU
      have hU' : FQ T n N g 5 (kP T n k) V U := hU
      unfold b_Reader_openBracket_J37
      exact Tr_set (fun W e n1 => Tr_ret (Or.inr (Or.inl ⟨c, by omega, FQ_tr hU' (FMo5 hg hU'.1 e n1)⟩)))
  · refine Tr_bnd (C_failN hg h3 h5 h1 h4 (by decide)) ?_
    rintro _ U hU
    have hU' : FQ T n N g 1 (kP T n k) V U := hU
    unfold b_Reader_openBracket_J37
    exact Tr_set (fun W e n1 => Tr_ret (Or.inr (Or.inr ⟨c, FQ_tr hU' (FMo5 hg hU'.1 e n1)⟩)))
/-- a bracket is closed that was opened from V0 -/
theorem C_close {T : Int → Int} {n N g k o w : Int} {ns : List (List Int)} {V : ASt} (hg : isGm g) (hN : lsT (tkK T n) N) (h : prC T n N g ns k (o + 1) V) (ho : 0 ≤ o) (hw : w ≠ 0 ∧ w ≠ 1) :
    Tr (cClose V w) (fun _ U => (kT T n k = w ∧ k < N ∧ CX T n N g U ∧ U 35 = upI (upI (V 35) 3 (k + 1)) 5 o ∧ ∀ a, a ≠ 35 → U a = V a) ∨ (kT T n k ≠ w ∧ FQ T n N g 1 (kP T n k) V U)) := by
  obtain ⟨h1, h2, h3, h4, h5, h6, h7, h8⟩ := h
  unfold cClose
  refine Tr_bnd (C_take hg hN h3 h5 h1 h4 hw) ?_
  rintro _ U (⟨u1, u2, u3, u4, u5⟩ | ⟨u1, u2, u3⟩)
  · have e5 : U 35 5 = o + 1 := by rw [u4, upI_n _ _ (by decide)]; exact h6
    rw [e5, w32_id (by omega) (by omega), show o + 1 - 1 = o by omega]
    exact Tr_set (fun W e n1 => Tr_ret (Or.inl ⟨u1, u2, CX_35 hg u3 n1 (by rw [e, upI_n _ _ (by decide)]), by rw [e, u4], fun a ha => by rw [n1 a ha, u5 a ha]⟩))
  · have hU : FQ T n N g 1 (kP T n k) V U := ⟨u2, u3⟩
    exact Tr_set (fun W e n1 => Tr_ret (Or.inr ⟨u1, FQ_tr hU (FMo5 hg u2 e n1)⟩))
