/-! the class reads tests as the grammar says -/
def nee (idx : Nat) (o : Int) : Int := 8 * (9 - o) + (8 - idx)
def CLf (T : Int → Int) (n N g : Int) (ns : List (List Int)) (m nt idx : Nat) : Prop := ∀ (k o : Int) (u : Nat) (V : ASt), prC T n N g ns k o V → nee idx o ≤ u → (ps (tkK T n) ns m nt k o).1 ≠ 9 → Tr (f_RD S0 u idx V 35 0) (fun _ U => PST T n N g (ps (tkK T n) ns m nt k o) V U)
def CLl (T : Int → Int) (n N g : Int) (ns : List (List Int)) (m nt idx : Nat) (lf : (Nat → ASt → Int → Int → Option (Int × ASt)) → Nat → ASt → Int → Option (Int × ASt)) : Prop := ∀ (k o : Int) (u f : Nat) (i : Int) (V : ASt), prC T n N g ns k o V → nee idx o ≤ u → N - k + 1 < f → 0 ≤ i → i ≤ k → (ps (tkK T n) ns m nt k o).1 ≠ 9 → Tr (lf (f_RD S0 u) f V i) (fun _ U => PST T n N g (ps (tkK T n) ns m nt k o) V U)
noncomputable def lfT (R : Nat → ASt → Int → Int → Option (Int × ASt)) (f : Nat) (V : ASt) (i : Int) : Option (Int × ASt) := b_Reader_readTest_L6 S0 R 35 f V i
noncomputable def lfB (R : Nat → ASt → Int → Int → Option (Int × ASt)) (f : Nat) (V : ASt) (i : Int) : Option (Int × ASt) := b_Reader_readBoth_L6 S0 R 35 f V i
noncomputable def lfS (R : Nat → ASt → Int → Int → Option (Int × ASt)) (f : Nat) (V : ASt) (i : Int) : Option (Int × ASt) := b_Reader_readSum_L6 S0 R 35 f V i
noncomputable def lfP (R : Nat → ASt → Int → Int → Option (Int × ASt)) (f : Nat) (V : ASt) (i : Int) : Option (Int × ASt) := b_Reader_readProduct_L6 S0 R 35 f V i
theorem PST_nil {T : Int → Int} {n N g k o : Int} {ns : List (List Int)} {V : ASt} (h : prC T n N g ns k o V) : PST T n N g (okR k []) V V := by
  obtain ⟨h1, h2, h3, h4, h5, h6, h7, h8⟩ := h
  exact ⟨frG_rfl g V, fun _ => ⟨h3, h4, rfl, h5, rfl, cdA_nil rfl rfl⟩, fun z => absurd rfl z⟩
theorem sqR_ok {r : R3} {c : Int × Int} (h : r.1 = 0) : sqR r (fun j => okR j [c]) = (0, r.2.1, r.2.2.1 ++ [c], r.2.2.2 ++ [c]) := by
  rw [sqR_o h, if_pos (show (okR r.2.1 [c]).1 = 0 from rfl)]; rfl
/-- a word is laid down behind a good result -/
theorem C_emitO {T : Int → Int} {n N g k0 k o : Int} {ns : List (List Int)} {r : R3} {U1 U2 : ASt} (hg : isGm g) (h : prC T n N g ns k o U1) (hl : U1 (g + 1) 2 < k) (ha : adv N k 1 r) (hr : r.1 = 0) (hp : PST T n N g r U1 U2) (c : Int × Int) :
    Tr (f_Tests_emit S0 U2 (g + 1) (cmw c)) (fun _ U3 => PST T n N g (sqR r (fun j => okR j [c])) U1 U3 ∧ prC T n N g ns r.2.1 o U3) := by
  have h2 := prC_ok hg h ha (by omega) hr hp
  obtain ⟨q1, q2, q3, q4, q5, q6, q7, q8⟩ := h2
  obtain ⟨p1, p2, p3, p4, p5, p6⟩ := hp.2.1 hr
  have hv := ha hr
  have hN := q3.2.2.2
  have hlt : U2 (g + 1) 2 < 1800 := by rw [p6.1]; omega
  refine Tr_mono (C_emitN hg q3 hlt c) ?_
  rintro _ U3 ⟨u1, u2, u3, u4⟩
  have hok : PST T n N g (okR r.2.1 [c]) U2 U3 := ⟨u3, fun _ => ⟨u1, by rw [u2]; exact q4, by rw [u2], by rw [u2]; exact q5, by rw [u2], u4⟩, fun z => absurd rfl z⟩
  refine ⟨PST_sq hr hp hok, q1, q2, u1, by rw [u2]; exact q4, by rw [u2]; exact q5, by rw [u2]; exact q6, ?_, nmH_k hg q8 u3⟩
  rw [u4.1, p6.1]
  simp only [List.length_cons, List.length_nil]
  omega
theorem CL_test {T : Int → Int} {n N g : Int} {ns : List (List Int)} {m : Nat} (hg : isGm g) (hN : lsT (tkK T n) N) (i1 : CLf T n N g ns m 2 1) (i2 : CLl T n N g ns m 1 1 lfT) : CLf T n N g ns (m + 1) 0 0 := by
  have hN' : kT T n N = 0 ∨ kT T n N = 1 := hN
  intro k o u V h hu h9
  have hk := h.1
  have ho := h.2.1
  have hNN := h.2.2.1.2.2.2
  obtain ⟨u', eu⟩ : ∃ u', u = u' + 1 := ⟨u - 1, by unfold nee at hu; omega⟩
  subst eu
  have e : ps (tkK T n) ns (m + 1) 0 k o = sqR (ps (tkK T n) ns m 2 k o) (fun k => ps (tkK T n) ns m 1 k o) := rfl
  rw [e] at h9 ⊢
  have h99 := sqR_9 h9
  show Tr (f_Reader_readTest S0 (f_RD S0 u') V 35) _
  unfold f_Reader_readTest
  rw [gd_t O_35]
  refine Tr_bnd (i1 k o u' V h (by unfold nee at *; omega) h99.1) ?_
  rintro _ U hU
  have ha := ps_adv (ns := ns) hN m 2 k o hk.2
  by_cases c : (ps (tkK T n) ns m 2 k o).1 = 0
  · have hv := ha c
    refine Tr_mono (i2 _ o u' FU 0 U (prC_ok hg h ha (by decide) c hU) (by unfold nee at *; omega) (by rw [FU_v]; omega) (by omega) (by omega) (h99.2 c)) ?_
    rintro _ W hW
    exact PST_sq c hU hW
  · have hF := hU.2.2 c
    rw [show FU = 99999 + 1 from rfl, b_Reader_readTest_L6]
    exact Tr_f (by decide) (Tr_bq (FM_type hF) (Tr_f (by omega) (Tr_ret (PST_sqF c hU ⟨hF, frG_rfl g U⟩))))
theorem CL_both {T : Int → Int} {n N g : Int} {ns : List (List Int)} {m : Nat} (hg : isGm g) (hN : lsT (tkK T n) N) (i1 : CLf T n N g ns m 4 2) (i2 : CLl T n N g ns m 3 2 lfB) : CLf T n N g ns (m + 1) 2 1 := by
  have hN' : kT T n N = 0 ∨ kT T n N = 1 := hN
  intro k o u V h hu h9
  have hk := h.1
  have ho := h.2.1
  have hNN := h.2.2.1.2.2.2
  obtain ⟨u', eu⟩ : ∃ u', u = u' + 1 := ⟨u - 1, by unfold nee at hu; omega⟩
  subst eu
  have e : ps (tkK T n) ns (m + 1) 2 k o = sqR (ps (tkK T n) ns m 4 k o) (fun k => ps (tkK T n) ns m 3 k o) := rfl
  rw [e] at h9 ⊢
  have h99 := sqR_9 h9
  show Tr (f_Reader_readBoth S0 (f_RD S0 u') V 35) _
  unfold f_Reader_readBoth
  rw [gd_t O_35]
  refine Tr_bnd (i1 k o u' V h (by unfold nee at *; omega) h99.1) ?_
  rintro _ U hU
  have ha := ps_adv (ns := ns) hN m 4 k o hk.2
  by_cases c : (ps (tkK T n) ns m 4 k o).1 = 0
  · have hv := ha c
    refine Tr_mono (i2 _ o u' FU 0 U (prC_ok hg h ha (by decide) c hU) (by unfold nee at *; omega) (by rw [FU_v]; omega) (by omega) (by omega) (h99.2 c)) ?_
    rintro _ W hW
    exact PST_sq c hU hW
  · have hF := hU.2.2 c
    rw [show FU = 99999 + 1 from rfl, b_Reader_readBoth_L6]
    exact Tr_f (by decide) (Tr_bq (FM_type hF) (Tr_f (by omega) (Tr_ret (PST_sqF c hU ⟨hF, frG_rfl g U⟩))))
theorem CL_sum {T : Int → Int} {n N g : Int} {ns : List (List Int)} {m : Nat} (hg : isGm g) (hN : lsT (tkK T n) N) (i1 : CLf T n N g ns m 8 5) (i2 : CLl T n N g ns m 7 5 lfS) : CLf T n N g ns (m + 1) 6 4 := by
  have hN' : kT T n N = 0 ∨ kT T n N = 1 := hN
  intro k o u V h hu h9
  have hk := h.1
  have ho := h.2.1
  have hNN := h.2.2.1.2.2.2
  obtain ⟨u', eu⟩ : ∃ u', u = u' + 1 := ⟨u - 1, by unfold nee at hu; omega⟩
  subst eu
  have e : ps (tkK T n) ns (m + 1) 6 k o = sqR (ps (tkK T n) ns m 8 k o) (fun k => ps (tkK T n) ns m 7 k o) := rfl
  rw [e] at h9 ⊢
  have h99 := sqR_9 h9
  show Tr (f_Reader_readSum S0 (f_RD S0 u') V 35) _
  unfold f_Reader_readSum
  rw [gd_t O_35]
  refine Tr_bnd (i1 k o u' V h (by unfold nee at *; omega) h99.1) ?_
  rintro _ U hU
  have ha := ps_adv (ns := ns) hN m 8 k o hk.2
  by_cases c : (ps (tkK T n) ns m 8 k o).1 = 0
  · have hv := ha c
    refine Tr_mono (i2 _ o u' FU 0 U (prC_ok hg h ha (by decide) c hU) (by unfold nee at *; omega) (by rw [FU_v]; omega) (by omega) (by omega) (h99.2 c)) ?_
    rintro _ W hW
    exact PST_sq c hU hW
  · have hF := hU.2.2 c
    rw [show FU = 99999 + 1 from rfl, b_Reader_readSum_L6]
    exact Tr_f (by decide) (Tr_bq (FM_type hF) (Tr_f (by omega) (Tr_bq (FM_type hF) (Tr_f (by omega) (Tr_ret (PST_sqF c hU ⟨hF, frG_rfl g U⟩))))))
theorem CL_prod {T : Int → Int} {n N g : Int} {ns : List (List Int)} {m : Nat} (hg : isGm g) (hN : lsT (tkK T n) N) (i1 : CLf T n N g ns m 10 6) (i2 : CLl T n N g ns m 9 6 lfP) : CLf T n N g ns (m + 1) 8 5 := by
  have hN' : kT T n N = 0 ∨ kT T n N = 1 := hN
  intro k o u V h hu h9
  have hk := h.1
  have ho := h.2.1
  have hNN := h.2.2.1.2.2.2
  obtain ⟨u', eu⟩ : ∃ u', u = u' + 1 := ⟨u - 1, by unfold nee at hu; omega⟩
  subst eu
  have e : ps (tkK T n) ns (m + 1) 8 k o = sqR (ps (tkK T n) ns m 10 k o) (fun k => ps (tkK T n) ns m 9 k o) := rfl
  rw [e] at h9 ⊢
  have h99 := sqR_9 h9
  show Tr (f_Reader_readProduct S0 (f_RD S0 u') V 35) _
  unfold f_Reader_readProduct
  rw [gd_t O_35]
  refine Tr_bnd (i1 k o u' V h (by unfold nee at *; omega) h99.1) ?_
  rintro _ U hU
  have ha := ps_adv (ns := ns) hN m 10 k o hk.2
  by_cases c : (ps (tkK T n) ns m 10 k o).1 = 0
  · have hv := ha c
    refine Tr_mono (i2 _ o u' FU 0 U (prC_ok hg h ha (by decide) c hU) (by unfold nee at *; omega) (by rw [FU_v]; omega) (by omega) (by omega) (h99.2 c)) ?_
    rintro _ W hW
    exact PST_sq c hU hW
  · have hF := hU.2.2 c
    rw [show FU = 99999 + 1 from rfl, b_Reader_readProduct_L6]
    refine Tr_f (by decide) (Tr_bq (C_factor hF.1 hF.2.2.2.2 ⟨hF.1.2.2.2.1, Int.le_refl N⟩) ?_)
    rw [if_neg (show ¬ (kT T n N = 37) by omega), if_neg (show ¬ (kT T n N = 42) by omega), if_neg (show ¬ (kT T n N = 47) by omega)]
    exact Tr_t rfl (Tr_ret (PST_sqF c hU ⟨hF, frG_rfl g U⟩))
/-- the tail of a loop: what follows the operator's sign -/
theorem C_opn {T : Int → Int} {n N g k o : Int} {ns : List (List Int)} {m q lq idx u : Nat} {V U1 : ASt} {c : Int × Int} {K : ASt → Option (Int × ASt)} (hg : isGm g) (hN : lsT (tkK T n) N) (hq : lpN q = 1) (i1 : CLf T n N g ns m q idx) (hidx : idx ≤ 6) (h : prC T n N g ns k o V) (hkN : k < N) (e1 : U1 35 = upI (V 35) 3 (k + 1)) (f1 : ∀ a, a ≠ 35 → U1 a = V a) (hu : nee idx o ≤ u)
    (h9 : (sqR (sqR (ps (tkK T n) ns m q (k + 1) o) (fun k => okR k [c])) (fun k => ps (tkK T n) ns m lq k o)).1 ≠ 9)
    (hK : ∀ U3, prC T n N g ns (ps (tkK T n) ns m q (k + 1) o).2.1 o U3 → k + 2 ≤ (ps (tkK T n) ns m q (k + 1) o).2.1 → (ps (tkK T n) ns m lq (ps (tkK T n) ns m q (k + 1) o).2.1 o).1 ≠ 9 → Tr (K U3) (fun _ U => PST T n N g (ps (tkK T n) ns m lq (ps (tkK T n) ns m q (k + 1) o).2.1 o) U3 U))
    (hF : ∀ U3 kd pc, FM T n N g kd pc U3 → Tr (K U3) (fun _ U => FQ T n N g kd pc U3 U)) :
    Tr (bnd (f_RD S0 u idx U1 35 0) (fun _ V8 => gd (isO S0 (V8 35 4) 1) (gd (isO S0 (aF S0 (V8 35 4) 5) 8) (bnd (f_Tests_emit S0 V8 (aF S0 (V8 35 4) 5) (cmw c)) (fun _ V12 => K V12))))) (fun _ U => PST T n N g (sqR (sqR (ps (tkK T n) ns m q (k + 1) o) (fun k => okR k [c])) (fun k => ps (tkK T n) ns m lq k o)) V U) := by
  have hgr := gm_r hg
  have h99 := sqR_9 h9
  have h98 := sqR_9 h99.1
  have hp1 := prC_st hg h hkN e1 f1
  have hl1 : U1 (g + 1) 2 < k + 1 := by
    rw [f1 (g + 1) (by omega)]
    have := h.2.2.2.2.2.2.1
    omega
  have ha : adv N (k + 1) 1 (ps (tkK T n) ns m q (k + 1) o) := by
    have := ps_adv (ns := ns) hN m q (k + 1) o (by omega)
    rw [hq] at this
    exact this
  refine Tr_bnd (i1 (k + 1) o u U1 hp1 hu h98.1) ?_
  rintro _ U2 hU2
  have e4 : U2 35 4 = g := by rw [hU2.1.2.1 4 (by decide) (by decide) (by decide) (by decide)]; exact hp1.2.2.1.2.1
  rw [e4, gd_t (OG hg), (O_g5 hg).1, gd_t (O_g5 hg).2]
  by_cases z : (ps (tkK T n) ns m q (k + 1) o).1 = 0
  · refine Tr_bnd (C_emitO (k0 := k) hg hp1 hl1 ha z hU2 c) ?_
    rintro _ U3 ⟨u1, u2⟩
    have hs : (sqR (ps (tkK T n) ns m q (k + 1) o) (fun k => okR k [c])).1 = 0 := by rw [sqR_ok z]
    have hs2 : (sqR (ps (tkK T n) ns m q (k + 1) o) (fun k => okR k [c])).2.1 = (ps (tkK T n) ns m q (k + 1) o).2.1 := by rw [sqR_ok z]
    have h9b := h99.2 hs
    rw [hs2] at h9b
    have hv := ha z
    refine Tr_mono (hK U3 u2 (by omega) h9b) ?_
    rintro _ W hW
    rw [← hs2] at hW
    exact PST_st hg e1 f1 (PST_sq (f := fun k => ps (tkK T n) ns m lq k o) hs u1 hW)
  · refine Tr_bnd (C_emitM hg (hU2.2.2 z) (cmw c)) ?_
    rintro _ U3 hU3
    refine Tr_mono (hF U3 _ _ hU3.1) ?_
    rintro _ W hW
    have hb : PST T n N g (sqR (ps (tkK T n) ns m q (k + 1) o) (fun k => okR k [c])) U1 U3 := PST_sqF z hU2 hU3
    have hs : (sqR (ps (tkK T n) ns m q (k + 1) o) (fun k => okR k [c])).1 ≠ 0 := by rw [sqR_f z]; exact z
    refine PST_st hg e1 f1 (PST_sqF hs hb ?_)
    rw [sqR_f z]; exact hW
theorem CL_testL {T : Int → Int} {n N g : Int} {ns : List (List Int)} {m : Nat} (hg : isGm g) (hN : lsT (tkK T n) N) (i1 : CLf T n N g ns m 2 1) (i2 : CLl T n N g ns m 1 1 lfT) : CLl T n N g ns (m + 1) 1 1 lfT := by
  have hN' : kT T n N = 0 ∨ kT T n N = 1 := hN
  intro k o u f i V h hu hf i0 i1' h9
  have hk := h.1
  have hX := h.2.2.1
  have hNN := hX.2.2.2
  have h3 := h.2.2.2.2.1
  obtain ⟨f', ef⟩ : ∃ f', f = f' + 1 := ⟨f - 1, by omega⟩
  subst ef
  have e : ps (tkK T n) ns (m + 1) 1 k o = if kT T n k = 271 then sqR (sqR (ps (tkK T n) ns m 2 (k + 1) o) (fun k => okR k [(21, 0)])) (fun k => ps (tkK T n) ns m 1 k o) else okR k [] := rfl
  rw [e] at h9 ⊢
  show Tr (b_Reader_readTest_L6 S0 (f_RD S0 u) 35 (f' + 1) V i) _
  rw [b_Reader_readTest_L6]
  by_cases c : kT T n k = 271
  · have hkN : k < N := lt_of_t hN hk.2 (show kT T n k ≠ 0 by omega) (show kT T n k ≠ 1 by omega)
    rw [if_pos c] at h9 ⊢
    refine Tr_f (by omega) (Tr_bq (C_type hX h3 hk) (Tr_t c ?_))
    refine Tr_bnd (C_step hX h3 ⟨hk.1, hkN⟩) ?_
    rintro _ U1 ⟨e1, f1⟩
    refine C_opn (c := (21, 0)) (lq := 1) hg hN rfl i1 (by decide) h hkN e1 f1 hu h9 (fun U3 p3 hle h9b => ?_) (fun U3 kd pc hF => ?_)
    · rw [w32_id (x := i + 1) (by omega) (by omega)]
      exact i2 _ o u f' (i + 1) U3 p3 hu (by omega) (by omega) (by omega) h9b
    · obtain ⟨f2, ef2⟩ : ∃ f2, f' = f2 + 1 := ⟨f' - 1, by omega⟩
      rw [ef2, b_Reader_readTest_L6]
      exact Tr_if (fun _ => Tr_ret ⟨hF, frG_rfl g U3⟩) (fun _ => Tr_bq (FM_type hF) (Tr_f (by omega) (Tr_ret ⟨hF, frG_rfl g U3⟩)))
  · rw [if_neg c]
    exact Tr_if (fun _ => Tr_ret (PST_nil h)) (fun _ => Tr_bq (C_type hX h3 hk) (Tr_f c (Tr_ret (PST_nil h))))
theorem CL_bothL {T : Int → Int} {n N g : Int} {ns : List (List Int)} {m : Nat} (hg : isGm g) (hN : lsT (tkK T n) N) (i1 : CLf T n N g ns m 4 2) (i2 : CLl T n N g ns m 3 2 lfB) : CLl T n N g ns (m + 1) 3 2 lfB := by
  have hN' : kT T n N = 0 ∨ kT T n N = 1 := hN
  intro k o u f i V h hu hf i0 i1' h9
  have hk := h.1
  have hX := h.2.2.1
  have hNN := hX.2.2.2
  have h3 := h.2.2.2.2.1
  obtain ⟨f', ef⟩ : ∃ f', f = f' + 1 := ⟨f - 1, by omega⟩
  subst ef
  have e : ps (tkK T n) ns (m + 1) 3 k o = if kT T n k = 272 then sqR (sqR (ps (tkK T n) ns m 4 (k + 1) o) (fun k => okR k [(20, 0)])) (fun k => ps (tkK T n) ns m 3 k o) else okR k [] := rfl
  rw [e] at h9 ⊢
  show Tr (b_Reader_readBoth_L6 S0 (f_RD S0 u) 35 (f' + 1) V i) _
  rw [b_Reader_readBoth_L6]
  by_cases c : kT T n k = 272
  · have hkN : k < N := lt_of_t hN hk.2 (show kT T n k ≠ 0 by omega) (show kT T n k ≠ 1 by omega)
    rw [if_pos c] at h9 ⊢
    refine Tr_f (by omega) (Tr_bq (C_type hX h3 hk) (Tr_t c ?_))
    refine Tr_bnd (C_step hX h3 ⟨hk.1, hkN⟩) ?_
    rintro _ U1 ⟨e1, f1⟩
    refine C_opn (c := (20, 0)) (lq := 3) hg hN rfl i1 (by decide) h hkN e1 f1 hu h9 (fun U3 p3 hle h9b => ?_) (fun U3 kd pc hF => ?_)
    · rw [w32_id (x := i + 1) (by omega) (by omega)]
      exact i2 _ o u f' (i + 1) U3 p3 hu (by omega) (by omega) (by omega) h9b
    · obtain ⟨f2, ef2⟩ : ∃ f2, f' = f2 + 1 := ⟨f' - 1, by omega⟩
      rw [ef2, b_Reader_readBoth_L6]
      exact Tr_if (fun _ => Tr_ret ⟨hF, frG_rfl g U3⟩) (fun _ => Tr_bq (FM_type hF) (Tr_f (by omega) (Tr_ret ⟨hF, frG_rfl g U3⟩)))
  · rw [if_neg c]
    exact Tr_if (fun _ => Tr_ret (PST_nil h)) (fun _ => Tr_bq (C_type hX h3 hk) (Tr_f c (Tr_ret (PST_nil h))))
theorem CL_sumL {T : Int → Int} {n N g : Int} {ns : List (List Int)} {m : Nat} (hg : isGm g) (hN : lsT (tkK T n) N) (i1 : CLf T n N g ns m 8 5) (i2 : CLl T n N g ns m 7 5 lfS) : CLl T n N g ns (m + 1) 7 5 lfS := by
  have hN' : kT T n N = 0 ∨ kT T n N = 1 := hN
  intro k o u f i V h hu hf i0 i1' h9
  have hk := h.1
  have hX := h.2.2.1
  have hNN := hX.2.2.2
  have h3 := h.2.2.2.2.1
  obtain ⟨f', ef⟩ : ∃ f', f = f' + 1 := ⟨f - 1, by omega⟩
  subst ef
  have e : ps (tkK T n) ns (m + 1) 7 k o = if kT T n k = 43 then sqR (sqR (ps (tkK T n) ns m 8 (k + 1) o) (fun k => okR k [(10, 0)])) (fun k => ps (tkK T n) ns m 7 k o) else if kT T n k = 45 then sqR (sqR (ps (tkK T n) ns m 8 (k + 1) o) (fun k => okR k [(11, 0)])) (fun k => ps (tkK T n) ns m 7 k o) else okR k [] := rfl
  rw [e] at h9 ⊢
  show Tr (b_Reader_readSum_L6 S0 (f_RD S0 u) 35 (f' + 1) V i) _
  rw [b_Reader_readSum_L6]
  have one : ∀ c : Int × Int, (kT T n k ≠ 0 ∧ kT T n k ≠ 1) → (sqR (sqR (ps (tkK T n) ns m 8 (k + 1) o) (fun k => okR k [c])) (fun k => ps (tkK T n) ns m 7 k o)).1 ≠ 9 → Tr (b_Reader_readSum_J47 S0 (f_RD S0 u) (b_Reader_readSum_L6 S0 (f_RD S0 u) 35 f') V 35 i (cmw c)) (fun _ U => PST T n N g (sqR (sqR (ps (tkK T n) ns m 8 (k + 1) o) (fun k => okR k [c])) (fun k => ps (tkK T n) ns m 7 k o)) V U) := by
    intro c ht h9
    have hkN : k < N := lt_of_t hN hk.2 ht.1 ht.2
    unfold b_Reader_readSum_J47
    refine Tr_bnd (C_step hX h3 ⟨hk.1, hkN⟩) ?_
    rintro _ U1 ⟨e1, f1⟩
    refine C_opn (c := c) (lq := 7) hg hN rfl i1 (by decide) h hkN e1 f1 hu h9 (fun U3 p3 hle h9b => ?_) (fun U3 kd pc hF => ?_)
    · rw [w32_id (x := i + 1) (by omega) (by omega)]
      exact i2 _ o u f' (i + 1) U3 p3 hu (by omega) (by omega) (by omega) h9b
    · obtain ⟨f2, ef2⟩ : ∃ f2, f' = f2 + 1 := ⟨f' - 1, by omega⟩
      rw [ef2, b_Reader_readSum_L6]
      exact Tr_if (fun _ => Tr_ret ⟨hF, frG_rfl g U3⟩) (fun _ => Tr_bq (FM_type hF) (Tr_f (by omega) (Tr_bq (FM_type hF) (Tr_f (by omega) (Tr_ret ⟨hF, frG_rfl g U3⟩)))))
  by_cases c : kT T n k = 43
  · have hkN : k < N := lt_of_t hN hk.2 (show kT T n k ≠ 0 by omega) (show kT T n k ≠ 1 by omega)
    rw [if_pos c] at h9 ⊢
    refine Tr_f (by omega) (Tr_bq (C_type hX h3 hk) (Tr_t c ?_))
    unfold b_Reader_readSum_J31
    exact Tr_bq (C_type hX h3 hk) (Tr_t c (one (10, 0) (by omega) h9))
  rw [if_neg c] at h9 ⊢
  by_cases c2 : kT T n k = 45
  · have hkN : k < N := lt_of_t hN hk.2 (show kT T n k ≠ 0 by omega) (show kT T n k ≠ 1 by omega)
    rw [if_pos c2] at h9 ⊢
    refine Tr_f (by omega) (Tr_bq (C_type hX h3 hk) (Tr_f c (Tr_bq (C_type hX h3 hk) (Tr_t c2 ?_))))
    unfold b_Reader_readSum_J31
    exact Tr_bq (C_type hX h3 hk) (Tr_f c (one (11, 0) (by omega) h9))
  · rw [if_neg c2]
    exact Tr_if (fun _ => Tr_ret (PST_nil h)) (fun _ => Tr_bq (C_type hX h3 hk) (Tr_f c (Tr_bq (C_type hX h3 hk) (Tr_f c2 (Tr_ret (PST_nil h))))))
theorem CL_prodL {T : Int → Int} {n N g : Int} {ns : List (List Int)} {m : Nat} (hg : isGm g) (hN : lsT (tkK T n) N) (i1 : CLf T n N g ns m 10 6) (i2 : CLl T n N g ns m 9 6 lfP) : CLl T n N g ns (m + 1) 9 6 lfP := by
  have hN' : kT T n N = 0 ∨ kT T n N = 1 := hN
  intro k o u f i V h hu hf i0 i1' h9
  have hk := h.1
  have hX := h.2.2.1
  have hNN := hX.2.2.2
  have h3 := h.2.2.2.2.1
  obtain ⟨f', ef⟩ : ∃ f', f = f' + 1 := ⟨f - 1, by omega⟩
  subst ef
  have e : ps (tkK T n) ns (m + 1) 9 k o = if kT T n k = 42 then sqR (sqR (ps (tkK T n) ns m 10 (k + 1) o) (fun k => okR k [(12, 0)])) (fun k => ps (tkK T n) ns m 9 k o) else if kT T n k = 47 then sqR (sqR (ps (tkK T n) ns m 10 (k + 1) o) (fun k => okR k [(13, 0)])) (fun k => ps (tkK T n) ns m 9 k o) else if kT T n k = 37 then sqR (sqR (ps (tkK T n) ns m 10 (k + 1) o) (fun k => okR k [(14, 0)])) (fun k => ps (tkK T n) ns m 9 k o) else okR k [] := rfl
  rw [e] at h9 ⊢
  show Tr (b_Reader_readProduct_L6 S0 (f_RD S0 u) 35 (f' + 1) V i) _
  rw [b_Reader_readProduct_L6]
  have hfac := C_factor hX h3 hk
  have one : ∀ (c : Int × Int), (kT T n k ≠ 0 ∧ kT T n k ≠ 1) → cmw c ≠ -1 → f_Reader_factorTold S0 V 35 = some (cmw c, V) → (sqR (sqR (ps (tkK T n) ns m 10 (k + 1) o) (fun k => okR k [c])) (fun k => ps (tkK T n) ns m 9 k o)).1 ≠ 9 → Tr (if 1800 ≤ i then some ((0 : Int), V) else bnd (f_Reader_factorTold S0 V 35) (fun r1 V2 => if r1 = -1 then some (0, V2) else bnd (f_Reader_factorTold S0 V2 35) (fun r4 V5 => bnd (f_Reader_step S0 V5 35) (fun r7 V8 => bnd (f_RD S0 u 6 V8 35 0) (fun r10 V11 => gd (isO S0 (V11 35 4) 1) (gd (isO S0 (aF S0 (V11 35 4) 5) 8) (bnd (f_Tests_emit S0 V11 (aF S0 (V11 35 4) 5) r4) (fun r14 V15 => b_Reader_readProduct_L6 S0 (f_RD S0 u) 35 f' V15 (w32 (i + 1)))))))))) (fun _ U => PST T n N g (sqR (sqR (ps (tkK T n) ns m 10 (k + 1) o) (fun k => okR k [c])) (fun k => ps (tkK T n) ns m 9 k o)) V U) := by
    intro c ht hc1 hfc h9
    have hkN : k < N := lt_of_t hN hk.2 ht.1 ht.2
    refine Tr_f (by omega) (Tr_bq hfc (Tr_f hc1 (Tr_bq hfc ?_)))
    refine Tr_bnd (C_step hX h3 ⟨hk.1, hkN⟩) ?_
    rintro _ U1 ⟨e1, f1⟩
    refine C_opn (c := c) (lq := 9) hg hN rfl i1 (by decide) h hkN e1 f1 hu h9 (fun U3 p3 hle h9b => ?_) (fun U3 kd pc hF => ?_)
    · rw [w32_id (x := i + 1) (by omega) (by omega)]
      exact i2 _ o u f' (i + 1) U3 p3 hu (by omega) (by omega) (by omega) h9b
    · obtain ⟨f2, ef2⟩ : ∃ f2, f' = f2 + 1 := ⟨f' - 1, by omega⟩
      rw [ef2, b_Reader_readProduct_L6]
      refine Tr_if (fun _ => Tr_ret ⟨hF, frG_rfl g U3⟩) (fun _ => Tr_bq (C_factor hF.1 hF.2.2.2.2 ⟨hF.1.2.2.2.1, Int.le_refl N⟩) ?_)
      rw [if_neg (show ¬ (kT T n N = 37) by omega), if_neg (show ¬ (kT T n N = 42) by omega), if_neg (show ¬ (kT T n N = 47) by omega)]
      exact Tr_t rfl (Tr_ret ⟨hF, frG_rfl g U3⟩)
  by_cases c : kT T n k = 42
  · rw [if_pos c] at h9 ⊢
    refine one (12, 0) (by omega) (by decide) ?_ h9
    rw [hfac, if_neg (show ¬ (kT T n k = 37) by omega), if_pos c]; rfl
  rw [if_neg c] at h9 ⊢
  by_cases c2 : kT T n k = 47
  · rw [if_pos c2] at h9 ⊢
    refine one (13, 0) (by omega) (by decide) ?_ h9
    rw [hfac, if_neg (show ¬ (kT T n k = 37) by omega), if_neg c, if_pos c2]; rfl
  rw [if_neg c2] at h9 ⊢
  by_cases c3 : kT T n k = 37
  · rw [if_pos c3] at h9 ⊢
    refine one (14, 0) (by omega) (by decide) ?_ h9
    rw [hfac, if_pos c3]; rfl
  · rw [if_neg c3]
    refine Tr_if (fun _ => Tr_ret (PST_nil h)) (fun _ => Tr_bq hfac ?_)
    rw [if_neg c3, if_neg c, if_neg c2]
    exact Tr_t rfl (Tr_ret (PST_nil h))
