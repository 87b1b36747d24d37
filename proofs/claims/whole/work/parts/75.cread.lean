/-! the class's reader: single steps -/
def tkK (T : Int → Int) (n : Int) : TKs := (kT T n, kP T n, kN T n, kV T n)
def CX (T : Int → Int) (n N g : Int) (V : ASt) : Prop := tkS T n N V ∧ V 35 4 = g ∧ (0 ≤ V (g + 1) 2 ∧ V (g + 1) 2 ≤ 1800) ∧ (0 ≤ N ∧ N ≤ 1800)
def frG (g : Int) (V U : ASt) : Prop := (∀ a, a ≠ 35 → a ≠ g + 1 → a ≠ g + 2 → U a = V a) ∧ (∀ k, k ≠ 0 → k ≠ 1 → k ≠ 3 → k ≠ 5 → U 35 k = V 35 k) ∧ (∀ k, k ≠ 2 → U (g + 1) k = V (g + 1) k)
theorem frG_rfl (g : Int) (V : ASt) : frG g V V := ⟨fun _ _ _ _ => rfl, fun _ _ _ _ _ => rfl, fun _ _ => rfl⟩
theorem frG_tr {g : Int} {V U W : ASt} (h : frG g V U) (h2 : frG g U W) : frG g V W := ⟨fun a a1 a2 a3 => by rw [h2.1 a a1 a2 a3, h.1 a a1 a2 a3], fun k a b c d => by rw [h2.2.1 k a b c d, h.2.1 k a b c d], fun k a => by rw [h2.2.2 k a, h.2.2 k a]⟩
theorem gm_r {g : Int} (h : isGm g) : g = 3 ∨ g = 19 := h
/-- only the reader's own cell is changed -/
theorem frG_35 {g : Int} {V U : ASt} (hg : isGm g) (h : ∀ a, a ≠ 35 → U a = V a) (h2 : ∀ k, k ≠ 0 → k ≠ 1 → k ≠ 3 → k ≠ 5 → U 35 k = V 35 k) : frG g V U := ⟨fun a a1 _ _ => h a a1, h2, fun k _ => by rw [h (g + 1) (by have := gm_r hg; omega)]⟩
theorem CX_35 {T : Int → Int} {n N g : Int} {V U : ASt} (hg : isGm g) (hX : CX T n N g V) (h : ∀ a, a ≠ 35 → U a = V a) (h4 : U 35 4 = V 35 4) : CX T n N g U := by
  have := gm_r hg
  unfold CX tkS at *
  rw [h 36 (by decide), h 38 (by decide), h 39 (by decide), h 40 (by decide), h4, h (g + 1) (by omega)]
  exact hX
/-- words as the class keeps them -/
def cmw (c : Int × Int) : Int := if c.1 = 0 then c.2 else if c.1 = 9 then 1 else if c.1 ≤ 5 then -14 - c.1 else 8 - c.1
def cdA (g : Int) (V U : ASt) (c : CDs) : Prop := U (g + 1) 2 = V (g + 1) 2 + c.length ∧ (∀ j, j < V (g + 1) 2 → U (g + 2) j = V (g + 2) j) ∧ (∀ i : Nat, i < c.length → U (g + 2) (V (g + 1) 2 + i) = cmw (c.getD i (0, 0)))
theorem cdA_nil {g : Int} {V U : ASt} (h1 : U (g + 1) 2 = V (g + 1) 2) (h2 : U (g + 2) = V (g + 2)) : cdA g V U [] := ⟨by rw [h1]; simp, fun j _ => by rw [h2], fun i hi => by simp only [List.length_nil] at hi; omega⟩
theorem cdA_tr {g : Int} {V U W : ASt} {c d : CDs} (h : cdA g V U c) (h2 : cdA g U W d) : cdA g V W (c ++ d) := by
  obtain ⟨a1, a2, a3⟩ := h
  obtain ⟨b1, b2, b3⟩ := h2
  refine ⟨?_, fun j hj => ?_, fun i hi => ?_⟩
  · rw [b1, a1]; simp only [List.length_append]; omega
  · rw [b2 j (by omega), a2 j hj]
  · by_cases z : i < c.length
    · rw [b2 _ (by omega), a3 i z, List.getD_eq_getElem?_getD, List.getD_eq_getElem?_getD, List.getElem?_append_left z]
    · have := b3 (i - c.length) (by simp only [List.length_append] at hi; omega)
      rw [a1, show V (g + 1) 2 + (c.length : Int) + ((i - c.length : Nat) : Int) = V (g + 1) 2 + i by omega] at this
      rw [this, List.getD_eq_getElem?_getD, List.getD_eq_getElem?_getD, List.getElem?_append_right (by omega)]
theorem C_type {T : Int → Int} {n N g k : Int} {V : ASt} (hX : CX T n N g V) (h3 : V 35 3 = k) (hk : 0 ≤ k ∧ k ≤ N) : f_Reader_type S0 V 35 = some (kT T n k, V) := by
  obtain ⟨⟨t1, t2⟩, -, -, hN⟩ := hX
  unfold f_Reader_type
  rw [gd_t O_35, F_35_2, h3, if_neg (show ¬ (k < 0) by omega), gd_t O_36, t1, if_neg (show ¬ (N + 1 ≤ k) by omega), F_36_1, A_38, gd_in (by omega) (by omega), (t2 k hk.1 hk.2).1]
theorem C_content {T : Int → Int} {n N g k : Int} {V : ASt} (hX : CX T n N g V) (h3 : V 35 3 = k) (hk : 0 ≤ k ∧ k ≤ N) : f_Reader_content S0 V 35 = some (kC T n k, V) := by
  obtain ⟨⟨t1, t2⟩, -, -, hN⟩ := hX
  unfold f_Reader_content
  rw [gd_t O_35, F_35_2, h3, if_neg (show ¬ (k < 0) by omega), gd_t O_36, t1, if_neg (show ¬ (N + 1 ≤ k) by omega), F_36_3, A_40, gd_in (by omega) (by omega), (t2 k hk.1 hk.2).2.2]
theorem C_step {T : Int → Int} {n N g k : Int} {V : ASt} (hX : CX T n N g V) (h3 : V 35 3 = k) (hk : 0 ≤ k ∧ k < N) : Tr (f_Reader_step S0 V 35) (fun _ U => U 35 = upI (V 35) 3 (k + 1) ∧ ∀ a, a ≠ 35 → U a = V a) := by
  obtain ⟨⟨t1, t2⟩, -, -, hN⟩ := hX
  unfold f_Reader_step
  rw [gd_t O_35, F_35_2, gd_t O_36, t1, h3, w32_id (by omega) (by omega)]
  refine Tr_f (by omega) ?_
  exact Tr_set (fun U e n1 => Tr_ret ⟨e, n1⟩)
theorem C_stepL {T : Int → Int} {n N g : Int} {V : ASt} (hX : CX T n N g V) (h3 : V 35 3 = N) : f_Reader_step S0 V 35 = some (0, V) := by
  obtain ⟨⟨t1, t2⟩, -, -, hN⟩ := hX
  unfold f_Reader_step
  rw [gd_t O_35, F_35_2, gd_t O_36, t1, h3, w32_id (by omega) (by omega), if_pos (Int.le_refl (N + 1))]
theorem C_fail {T : Int → Int} {n N g k kd : Int} {V : ASt} (hX : CX T n N g V) (h3 : V 35 3 = k) (hk : 0 ≤ k ∧ k ≤ N) (h0 : V 35 0 = 0) : Tr (f_Reader_fail S0 V 35 kd) (fun _ U => U 35 = upI (upI (upI (V 35) 0 kd) 1 (kP T n k)) 3 N ∧ ∀ a, a ≠ 35 → U a = V a) := by
  obtain ⟨⟨t1, t2⟩, h4, -, hN⟩ := hX
  unfold f_Reader_fail
  rw [gd_t O_35]
  refine Tr_t h0 ?_
  refine Tr_set (fun V1 e1 n1 => ?_)
  have e3 : V1 35 3 = k := by rw [e1, upI_n _ _ (by decide)]; exact h3
  have e4 : V1 36 4 = N + 1 := by rw [n1 36 (by decide)]; exact t1
  rw [e3]
  refine Tr_f (by omega) ?_
  rw [F_35_2, gd_t O_36, e4]
  refine Tr_f (by omega) ?_
  rw [F_36_2, A_39, gd_in (by omega) (by omega), n1 39 (by decide), (t2 k hk.1 hk.2).2.1]
  unfold b_Reader_fail_J50
  rw [gd_t O_35]
  refine Tr_set (fun V2 e2 n2 => ?_)
  unfold b_Reader_fail_J53
  rw [F_35_2, gd_t O_36, n2 36 (by decide), e4, w32_id (by omega) (by omega), show N + 1 - 1 = N by omega]
  exact Tr_set (fun U e n3 => Tr_ret ⟨by rw [e, e2, e1], fun a ha => by rw [n3 a ha, n2 a ha, n1 a ha]⟩)
theorem C_failF {T : Int → Int} {n N g kd : Int} {V : ASt} (hX : CX T n N g V) (h0 : V 35 0 ≠ 0) : Tr (f_Reader_fail S0 V 35 kd) (fun _ U => U 35 = upI (V 35) 3 N ∧ ∀ a, a ≠ 35 → U a = V a) := by
  obtain ⟨⟨t1, t2⟩, -, -, hN⟩ := hX
  unfold f_Reader_fail b_Reader_fail_J53
  rw [gd_t O_35]
  refine Tr_f h0 ?_
  rw [F_35_2, gd_t O_36, t1, w32_id (by omega) (by omega), show N + 1 - 1 = N by omega]
  exact Tr_set (fun U e n3 => Tr_ret ⟨e, n3⟩)
/-- fault has been found; the cursor is at the last token -/
def FM (T : Int → Int) (n N g kd pc : Int) (V : ASt) : Prop := CX T n N g V ∧ V 35 0 = kd ∧ kd ≠ 0 ∧ V 35 1 = pc ∧ V 35 3 = N
theorem FM_35 {T : Int → Int} {n N g kd pc : Int} {V U : ASt} (hg : isGm g) (h : FM T n N g kd pc V) (hf : ∀ a, a ≠ 35 → U a = V a) (h0 : ∀ k, k ≠ 3 → k ≠ 5 → U 35 k = V 35 k) (h3 : U 35 3 = N) : FM T n N g kd pc U :=
  ⟨CX_35 hg h.1 hf (h0 4 (by decide) (by decide)), by rw [h0 0 (by decide) (by decide)]; exact h.2.1, h.2.2.1, by rw [h0 1 (by decide) (by decide)]; exact h.2.2.2.1, h3⟩
theorem C_failM {T : Int → Int} {n N g kd pc k2 : Int} {V : ASt} (hg : isGm g) (h : FM T n N g kd pc V) : Tr (f_Reader_fail S0 V 35 k2) (fun _ U => FM T n N g kd pc U ∧ frG g V U) := by
  refine Tr_mono (C_failF h.1 (by rw [h.2.1]; exact h.2.2.1)) ?_
  rintro r U ⟨u1, u2⟩
  exact ⟨FM_35 hg h u2 (fun k k3 _ => by rw [u1, upI_n _ _ k3]) (by rw [u1, upI_s]), frG_35 hg u2 (fun k _ _ k3 _ => by rw [u1, upI_n _ _ k3])⟩
theorem C_failN {T : Int → Int} {n N g k kd : Int} {V : ASt} (hg : isGm g) (hX : CX T n N g V) (h3 : V 35 3 = k) (hk : 0 ≤ k ∧ k ≤ N) (h0 : V 35 0 = 0) (hkd : kd ≠ 0) : Tr (f_Reader_fail S0 V 35 kd) (fun _ U => FM T n N g kd (kP T n k) U ∧ frG g V U) := by
  refine Tr_mono (C_fail hX h3 hk h0) ?_
  rintro r U ⟨u1, u2⟩
  refine ⟨⟨CX_35 hg hX u2 (by rw [u1, upI_n _ _ (by decide), upI_n _ _ (by decide), upI_n _ _ (by decide)]), ?_, hkd, ?_, by rw [u1, upI_s]⟩, frG_35 hg u2 (fun k a b c d => by rw [u1, upI_n _ _ c, upI_n _ _ b, upI_n _ _ a])⟩
  · rw [u1, upI_n _ _ (by decide), upI_n _ _ (by decide), upI_s]
  · rw [u1, upI_n _ _ (by decide), upI_s]
/-- the type of the last token -/
theorem FM_type {T : Int → Int} {n N g kd pc : Int} {V : ASt} (h : FM T n N g kd pc V) : f_Reader_type S0 V 35 = some (kT T n N, V) := C_type h.1 h.2.2.2.2 ⟨h.1.2.2.2.1, Int.le_refl N⟩
theorem C_takeM {T : Int → Int} {n N g kd pc w : Int} {V : ASt} (hg : isGm g) (hN : lsT (tkK T n) N) (h : FM T n N g kd pc V) (hw : w ≠ 0 ∧ w ≠ 1) : Tr (f_Reader_take S0 V 35 w) (fun _ U => FM T n N g kd pc U ∧ frG g V U) := by
  have hN' : kT T n N = 0 ∨ kT T n N = 1 := hN
  unfold f_Reader_take
  rw [gd_t O_35]
  refine Tr_bq (FM_type h) (Tr_f (by omega) ?_)
  refine Tr_bnd (C_failM hg h) ?_
  rintro _ U hU
  exact Tr_ret hU
/-- a token is taken, or fault is found there -/
theorem C_take {T : Int → Int} {n N g k w : Int} {V : ASt} (hg : isGm g) (hN : lsT (tkK T n) N) (hX : CX T n N g V) (h3 : V 35 3 = k) (hk : 0 ≤ k ∧ k ≤ N) (h0 : V 35 0 = 0) (hw : w ≠ 0 ∧ w ≠ 1) :
    Tr (f_Reader_take S0 V 35 w) (fun _ U => (kT T n k = w ∧ k < N ∧ CX T n N g U ∧ U 35 = upI (V 35) 3 (k + 1) ∧ ∀ a, a ≠ 35 → U a = V a) ∨ (kT T n k ≠ w ∧ FM T n N g 1 (kP T n k) U ∧ frG g V U)) := by
  unfold f_Reader_take
  rw [gd_t O_35]
  refine Tr_bq (C_type hX h3 hk) ?_
  refine Tr_if (fun c => ?_) (fun c => ?_)
  · have hkN : k < N := lt_of_t hN hk.2 (show kT T n k ≠ 0 by omega) (show kT T n k ≠ 1 by omega)
    refine Tr_bnd (C_step hX h3 ⟨hk.1, hkN⟩) ?_
    rintro _ U ⟨u1, u2⟩
    exact Tr_ret (Or.inl ⟨c, hkN, CX_35 hg hX u2 (by rw [u1, upI_n _ _ (by decide)]), u1, u2⟩)
  · refine Tr_bnd (C_failN hg hX h3 hk h0 (by decide)) ?_
    rintro _ U hU
    exact Tr_ret (Or.inr ⟨c, hU⟩)
/-- a word of a test is laid down -/
theorem C_emit {T : Int → Int} {n N g : Int} {V : ASt} (hg : isGm g) (hX : CX T n N g V) (c : Int) : Tr (f_Tests_emit S0 V (g + 1) c) (fun _ U => (∀ a, a ≠ g + 1 → a ≠ g + 2 → U a = V a) ∧ (∀ k, k ≠ 2 → U (g + 1) k = V (g + 1) k) ∧ (V (g + 1) 2 < 1800 → U (g + 1) 2 = V (g + 1) 2 + 1 ∧ U (g + 2) = upI (V (g + 2)) (V (g + 1) 2) c) ∧ (1800 ≤ V (g + 1) 2 → U = V) ∧ CX T n N g U) := by
  have hgr := gm_r hg
  have hl := hX.2.2.1
  have ho : isO S0 (g + 1) 8 = true := by
    rcases hgr with e | e <;> subst e
    · exact O_4
    · exact O_20
  have hf : aF S0 (g + 1) 0 = g + 2 := by
    rcases hgr with e | e <;> subst e
    · exact F_4_0
    · exact F_20_0
  unfold f_Tests_emit
  rw [gd_t ho]
  refine Tr_if (fun d => ?_) (fun d => ?_)
  · exact Tr_ret ⟨fun _ _ _ => rfl, fun _ _ => rfl, fun z => by omega, fun _ => rfl, hX⟩
  · rw [hf, AG2 hg, gd_in (by omega) (by omega)]
    refine Tr_set (fun V1 e1 n1 => ?_)
    rw [n1 (g + 1) (by omega), w32_id (by omega) (by omega)]
    refine Tr_set (fun V2 e2 n2 => ?_)
    have f : ∀ a, a ≠ g + 1 → a ≠ g + 2 → V2 a = V a := fun a a1 a2 => by rw [n2 a a1, n1 a a2]
    have e12 : V2 (g + 1) 2 = V (g + 1) 2 + 1 := by rw [e2, upI_s]
    refine Tr_ret ⟨f, fun k hk => by rw [e2, upI_n _ _ hk, n1 (g + 1) (by omega)], fun _ => ⟨e12, by rw [n2 (g + 2) (by omega), e1]⟩, fun z => by omega, ?_⟩
    unfold CX tkS at *
    rw [f 36 (by omega) (by omega), f 38 (by omega) (by omega), f 39 (by omega) (by omega), f 40 (by omega) (by omega), f 35 (by omega) (by omega), e12]
    exact ⟨hX.1, hX.2.1, by omega, hX.2.2.2⟩
theorem C_emitM {T : Int → Int} {n N g kd pc : Int} {V : ASt} (hg : isGm g) (h : FM T n N g kd pc V) (c : Int) : Tr (f_Tests_emit S0 V (g + 1) c) (fun _ U => FM T n N g kd pc U ∧ frG g V U) := by
  have hgr := gm_r hg
  refine Tr_mono (C_emit hg h.1 c) ?_
  rintro r U ⟨u1, u2, -, -, u5⟩
  have e35 : U 35 = V 35 := u1 35 (by omega) (by omega)
  exact ⟨⟨u5, by rw [e35]; exact h.2.1, h.2.2.1, by rw [e35]; exact h.2.2.2.1, by rw [e35]; exact h.2.2.2.2⟩, ⟨fun a _ a2 a3 => u1 a a2 a3, fun k _ _ _ _ => by rw [e35], u2⟩⟩
theorem C_emitN {T : Int → Int} {n N g : Int} {V : ASt} (hg : isGm g) (hX : CX T n N g V) (hl : V (g + 1) 2 < 1800) (c : Int × Int) : Tr (f_Tests_emit S0 V (g + 1) (cmw c)) (fun _ U => CX T n N g U ∧ U 35 = V 35 ∧ frG g V U ∧ cdA g V U [c]) := by
  have hgr := gm_r hg
  refine Tr_mono (C_emit hg hX (cmw c)) ?_
  rintro r U ⟨u1, u2, u3, -, u5⟩
  have e35 : U 35 = V 35 := u1 35 (by omega) (by omega)
  obtain ⟨v1, v2⟩ := u3 hl
  refine ⟨u5, e35, ⟨fun a _ a2 a3 => u1 a a2 a3, fun k _ _ _ _ => by rw [e35], u2⟩, by rw [v1]; rfl, fun j hj => by rw [v2, upI_n _ _ (by omega)], fun i hi => ?_⟩
  simp only [List.length_cons, List.length_nil] at hi
  have : i = 0 := by omega
  subst this
  rw [v2, show V (g + 1) 2 + ((0 : Nat) : Int) = V (g + 1) 2 by omega, upI_s]
  rfl
theorem O_g5 {g : Int} (hg : isGm g) : aF S0 g 5 = g + 1 ∧ isO S0 (g + 1) 8 = true := by
  refine ⟨FG_5 hg, ?_⟩
  rcases gm_r hg with e | e <;> subst e
  · exact O_4
  · exact O_20
