/-! facts, comparisons, parts and pairs of the class's grammar -/
/-- the result of a fact with a NOT behind it or none -/
def ntX (d : Int) (r : R3) : R3 := if r.1 = 0 then (0, r.2.1, r.2.2.1, r.2.2.2 ++ (if d = 1 then [(22, 0)] else [])) else r
def CLb (T : Int → Int) (n N g : Int) (ns : List (List Int)) (m : Nat) : Prop := ∀ (k o : Int) (u : Nat) (d : Int) (V : ASt), prC T n N g ns k o V → nee 3 o ≤ u → (d = 0 ∨ (d = 1 ∧ V (g + 1) 2 < k)) → (ps (tkK T n) ns m 11 k o).1 ≠ 9 → Tr (b_Reader_readFact_J41 S0 (f_RD S0 u) V 35 d) (fun _ U => PST T n N g (ntX d (ps (tkK T n) ns m 11 k o)) V U)
/-- the pair behind its word, at which the cursor still is -/
def CLp (T : Int → Int) (n N g : Int) (ns : List (List Int)) (m nt : Nat) (op : Int) : Prop := ∀ (k o : Int) (u : Nat) (V : ASt), prC T n N g ns k o V → k < N → nee 7 o ≤ u → (ps (tkK T n) ns m nt (k + 1) o).1 ≠ 9 → Tr (f_RD S0 u 3 V 35 op) (fun _ U => PST T n N g (ps (tkK T n) ns m nt (k + 1) o) V U)
def CLc (T : Int → Int) (n N g : Int) (ns : List (List Int)) (m : Nat) : Prop := ∀ (k o : Int) (u : Nat) (V : ASt), prC T n N g ns k o V → nee 4 o ≤ u → (ps (tkK T n) ns m 5 k o).1 ≠ 9 → Tr (cCmp (f_RD S0 u) V) (fun _ U => PST T n N g (ps (tkK T n) ns m 5 k o) V U)
theorem PST_one {T : Int → Int} {n N g k o : Int} {ns : List (List Int)} {V U W : ASt} {c : Int × Int} (hg : isGm g) (h : prC T n N g ns k o V) (u1 : CX T n N g U) (u2 : U 35 = V 35) (u3 : frG g V U) (u4 : cdA g V U [c]) (e1 : W 35 = upI (U 35) 3 (k + 1)) (f1 : ∀ a, a ≠ 35 → W a = U a) : PST T n N g (okR (k + 1) [c]) V W := by
  have hgr := gm_r hg
  obtain ⟨h1, h2, h3, h4, h5, h6, h7, h8⟩ := h
  refine ⟨frG_tr u3 (frG_35 hg f1 (fun k _ _ k3 _ => by rw [e1, upI_n _ _ k3])), fun _ => ⟨CX_35 hg u1 f1 (by rw [e1, upI_n _ _ (by decide)]), ?_, ?_, ?_, ?_, ?_⟩, fun z => absurd rfl z⟩
  · rw [e1, upI_n _ _ (by decide), u2]; exact h4
  · rw [e1, upI_n _ _ (by decide), u2]
  · rw [e1, upI_s]; rfl
  · rw [e1, upI_n _ _ (by decide), u2]
  · unfold cdA at *
    rw [f1 (g + 1) (by omega), f1 (g + 2) (by omega)]
    exact u4
/-- behind a bracket that is open: what is in it, and its end -/
theorem C_brk {T : Int → Int} {n N g k o w : Int} {ns : List (List Int)} {m q idx u : Nat} {V U1 : ASt} {K : ASt → Option (Int × ASt)} {Q : Int → ASt → Prop} (hg : isGm g) (hN : lsT (tkK T n) N) (hq : lpN q = 1) (hidx : idx ≤ 6) (i1 : CLf T n N g ns m q idx) (h : prC T n N g ns k o V) (hp : prC T n N g ns (k + 1) (o + 1) U1) (e1 : U1 35 = upI (upI (V 35) 3 (k + 1)) 5 (o + 1)) (f1 : ∀ a, a ≠ 35 → U1 a = V a) (hu : nee idx (o + 1) ≤ u) (hu7 : 7 ≤ u) (hw : w ≠ 0 ∧ w ≠ 1)
    (h9 : (sqR (ps (tkK T n) ns m q (k + 1) (o + 1)) (fun j => if kT T n j = w then okR (j + 1) [] else flR (tkK T n) 1 j)).1 ≠ 9)
    (hK : ∀ U3, PST T n N g (sqR (ps (tkK T n) ns m q (k + 1) (o + 1)) (fun j => if kT T n j = w then okR (j + 1) [] else flR (tkK T n) 1 j)) V U3 → Tr (K U3) Q) :
    Tr (bnd (f_RD S0 u idx U1 35 0) (fun _ V27 => bnd (f_Reader_take S0 V27 35 w) (fun _ V30 => wV (aset V30 35 5 (w32 ((V30 35 5) - 1))) (fun V32 => K V32)))) Q := by
  have hgr := gm_r hg
  have h99 := sqR_9 h9
  have ho := h.2.1
  have ha : adv N (k + 1) 1 (ps (tkK T n) ns m q (k + 1) (o + 1)) := by
    have := ps_adv (ns := ns) hN m q (k + 1) (o + 1) (hp.1).2
    rw [hq] at this
    exact this
  have f01 : frG g V U1 := frG_35 hg f1 (fun k _ _ k3 k5 => by rw [e1, upI_n _ _ k5, upI_n _ _ k3])
  refine Tr_bnd (i1 (k + 1) (o + 1) u U1 hp hu h99.1) ?_
  rintro _ U2 hU2
  by_cases z : (ps (tkK T n) ns m q (k + 1) (o + 1)).1 = 0
  · have hp2 := prC_ok hg hp ha (by omega) z hU2
    obtain ⟨p1, p2, p3, p4, p5, p6⟩ := hU2.2.1 z
    refine Tr_cl (C_close hg hN hp2 (by omega) hw) ?_
    rintro _ U3 (⟨c, u2, u3, u4, u5⟩ | ⟨c, hF⟩)
    · refine hK U3 ?_
      rw [sqR_o z, if_pos c, if_pos (show (okR ((ps (tkK T n) ns m q (k + 1) (o + 1)).2.1 + 1) []).1 = 0 from rfl)]
      refine ⟨frG_tr f01 (frG_tr hU2.1 (frG_35 hg u5 (fun k _ _ k3 k5 => by rw [u4, upI_n _ _ k5, upI_n _ _ k3]))), fun _ => ⟨u3, ?_, ?_, ?_, ?_, ?_⟩, fun y => absurd rfl y⟩
      · rw [u4, upI_n _ _ (by decide), upI_n _ _ (by decide)]; exact p2
      · rw [u4, upI_n _ _ (by decide), upI_n _ _ (by decide), p3, e1, upI_n _ _ (by decide), upI_n _ _ (by decide)]
      · rw [u4, upI_n _ _ (by decide), upI_s]; rfl
      · rw [u4, upI_s]; exact h.2.2.2.2.2.1.symm
      · show cdA g V U3 ((ps (tkK T n) ns m q (k + 1) (o + 1)).2.2.2 ++ [])
        rw [List.append_nil]
        unfold cdA at *
        rw [u5 (g + 1) (by omega), u5 (g + 2) (by omega)]
        rw [f1 (g + 1) (by omega), f1 (g + 2) (by omega)] at p6
        exact p6
    · refine hK U3 ?_
      rw [sqR_o z, if_neg c, if_neg (show ¬ ((flR (tkK T n) 1 (ps (tkK T n) ns m q (k + 1) (o + 1)).2.1).1 = 0) from show ¬ ((1 : Int) = 0) by decide)]
      exact PST_fl (by decide) ⟨hF.1, frG_tr f01 (frG_tr hU2.1 hF.2)⟩
  · refine Tr_cl (C_closeM hg hN (hU2.2.2 z) hw) ?_
    rintro _ U3 hU3
    refine hK U3 ?_
    rw [sqR_f z]
    exact ⟨frG_tr f01 (frG_tr hU2.1 hU3.2), fun y => absurd y z, fun _ => hU3.1⟩
/-- the end of a fact -/
theorem C_101 {T : Int → Int} {n N g k o s : Int} {ns : List (List Int)} {R : Nat → ASt → Int → Int → Option (Int × ASt)} {r : R3} {V U : ASt} {d : Int} (hg : isGm g) (h : prC T n N g ns k o V) (ha : adv N k s r) (hd : d = 0 ∨ (d = 1 ∧ V (g + 1) 2 < k)) (hp : PST T n N g r V U) : Tr (b_Reader_readFact_J148 S0 R U 35 d) (fun _ W => PST T n N g (ntX d r) V W) := by
  have hN := h.2.2.1.2.2.2
  unfold b_Reader_readFact_J148
  have e4 : U 35 4 = g := by rw [hp.1.2.1 4 (by decide) (by decide) (by decide) (by decide)]; exact h.2.2.1.2.1
  rcases hd with hd | ⟨hd, hl⟩
  · refine Tr_t hd (Tr_ret ?_)
    unfold ntX
    by_cases z : r.1 = 0
    · rw [if_pos z, hd, if_neg (by decide), List.append_nil]
      obtain ⟨p1, p2, p3⟩ := hp
      exact ⟨p1, fun _ => p2 z, fun y => absurd rfl y⟩
    · rw [if_neg z]; exact hp
  · refine Tr_f (by omega) ?_
    rw [e4, gd_t (OG hg), (O_g5 hg).1, gd_t (O_g5 hg).2]
    unfold ntX
    by_cases z : r.1 = 0
    · rw [if_pos z, if_pos hd]
      obtain ⟨p1, p2, p3, p4, p5, p6⟩ := hp.2.1 z
      have hv := ha z
      have hlt : U (g + 1) 2 < 1800 := by rw [p6.1]; omega
      refine Tr_bnd (C_emitN hg p1 hlt (22, 0)) ?_
      rintro _ W ⟨w1, w2, w3, w4⟩
      exact Tr_ret ⟨frG_tr hp.1 w3, fun _ => ⟨w1, by rw [w2]; exact p2, by rw [w2]; exact p3, by rw [w2]; exact p4, by rw [w2]; exact p5, cdA_tr p6 w4⟩, fun y => absurd rfl y⟩
    · rw [if_neg z]
      refine Tr_bnd (C_emitM hg (hp.2.2 z) (-14)) ?_
      rintro _ W hW
      exact Tr_ret ⟨frG_tr hp.1 hW.2, fun y => absurd y z, fun _ => hW.1⟩
theorem CL_factB {T : Int → Int} {n N g : Int} {ns : List (List Int)} {m : Nat} (hg : isGm g) (hN : lsT (tkK T n) N) (i0 : CLf T n N g ns m 0 0) (i5 : CLc T n N g ns m) : CLb T n N g ns (m + 1) := by
  have hN' : kT T n N = 0 ∨ kT T n N = 1 := hN
  intro k o u d V h hu hd h9
  have hk := h.1
  have ho := h.2.1
  have hX := h.2.2.1
  have h3 := h.2.2.2.2.1
  have hl := h.2.2.2.2.2.2.1
  have hNN := hX.2.2.2
  have e : ps (tkK T n) ns (m + 1) 11 k o = (if kT T n k = 91 then (if o = 8 then flR (tkK T n) 5 k else sqR (ps (tkK T n) ns m 0 (k + 1) (o + 1)) (fun k => if kT T n k = 93 then okR (k + 1) [] else flR (tkK T n) 1 k)) else if kT T n k = 273 then okR (k + 1) [(9, 0)] else ps (tkK T n) ns m 5 k o) := rfl
  have hadv := ps_adv (ns := ns) hN (m + 1) 11 k o hk.2
  rw [e] at h9 hadv ⊢
  unfold b_Reader_readFact_J41
  refine Tr_bq (C_type hX h3 hk) ?_
  by_cases c : kT T n k = 91
  · refine Tr_t c ?_
    rw [if_pos c] at h9 hadv ⊢
    refine Tr_bnd (C_open hg hN h (w := 91) (by decide)) ?_
    rintro _ U1 (⟨-, o8, u2, u3, u4, u5⟩ | ⟨-, o8, hF⟩ | ⟨c', -⟩)
    · rw [if_neg o8] at h9 hadv ⊢
      refine C_brk hg hN rfl (by decide) i0 h u3 u4 u5 (by unfold nee at *; omega) (by unfold nee at hu; omega) (by decide) h9 (fun U3 hU3 => ?_)
      exact C_101 hg h hadv hd hU3
    · rw [if_pos o8] at h9 hadv ⊢
      refine Tr_bnd (F_any hg hN hF.1 (idx := 0) (by decide) (by unfold nee at hu; omega)) ?_
      rintro _ U2 hU2
      refine Tr_cl (C_closeM hg hN hU2.1 (by decide)) ?_
      rintro _ U3 hU3
      exact C_101 hg h hadv hd (PST_fl (by decide) (FQ_tr hF (FQ_tr hU2 hU3)))
    · exact absurd c c'
  refine Tr_f c ?_
  rw [if_neg c] at h9 hadv ⊢
  refine Tr_bq (C_type hX h3 hk) ?_
  by_cases c2 : kT T n k = 273
  · have hkN : k < N := lt_of_t hN hk.2 (show kT T n k ≠ 0 by omega) (show kT T n k ≠ 1 by omega)
    refine Tr_t c2 ?_
    rw [if_pos c2] at h9 hadv ⊢
    refine Tr_bnd (C_step hX h3 ⟨hk.1, hkN⟩) ?_
    rintro _ U1 ⟨e1, f1⟩
    have hgr := gm_r hg
    have p1 := prC_st hg h hkN e1 f1
    have e4 : U1 35 4 = g := p1.2.2.1.2.1
    rw [e4, gd_t (OG hg), (O_g5 hg).1, gd_t (O_g5 hg).2]
    have hlt : U1 (g + 1) 2 < 1800 := by rw [f1 (g + 1) (by omega)]; omega
    refine Tr_bnd (C_emitN hg p1.2.2.1 hlt (9, 0)) ?_
    rintro _ U2 ⟨w1, w2, w3, w4⟩
    refine C_101 hg h hadv hd (PST_st hg e1 f1 ?_)
    exact ⟨w3, fun _ => ⟨w1, by rw [w2]; exact p1.2.2.2.1, by rw [w2], by rw [w2]; exact p1.2.2.2.2.1, by rw [w2], w4⟩, fun y => absurd rfl y⟩
  · refine Tr_f c2 ?_
    rw [if_neg c2] at h9 hadv ⊢
    refine Tr_cm (i5 k o u V h (by unfold nee at *; omega) h9) ?_
    rintro _ U hU
    exact C_101 hg h hadv hd hU
theorem CL_fact {T : Int → Int} {n N g : Int} {ns : List (List Int)} {m : Nat} (hg : isGm g) (hN : lsT (tkK T n) N) (ib : CLb T n N g ns m) : CLf T n N g ns (m + 1) 4 2 := by
  have hN' : kT T n N = 0 ∨ kT T n N = 1 := hN
  have hgr := gm_r hg
  intro k o u V h hu h9
  have hk := h.1
  have ho := h.2.1
  have hNN := h.2.2.1.2.2.2
  have hl := h.2.2.2.2.2.2.1
  obtain ⟨u', eu⟩ : ∃ u', u = u' + 1 := ⟨u - 1, by unfold nee at hu; omega⟩
  subst eu
  have e : ps (tkK T n) ns (m + 1) 4 k o = ntR (ntC (kT T n) 2000 k) (ps (tkK T n) ns m 11 (k + ntC (kT T n) 2000 k) o) := rfl
  rw [e] at h9 ⊢
  have h9' : (ps (tkK T n) ns m 11 (k + ntC (kT T n) 2000 k) o).1 ≠ 9 := by
    unfold ntR at h9
    by_cases z : (ps (tkK T n) ns m 11 (k + ntC (kT T n) 2000 k) o).1 = 0
    · omega
    · rw [if_neg z] at h9; exact h9
  show Tr (f_Reader_readFact S0 (f_RD S0 u') V 35) _
  unfold f_Reader_readFact
  rw [gd_t O_35]
  have hlp : ∀ (f s : Nat) (c : Nat) (i d : Int) (W : ASt), N - (k + c) + 1 < f → N - (k + c) < s → prC T n N g ns (k + c) o W → (∀ a, a ≠ 35 → W a = V a) → W 35 = upI (V 35) 3 (k + c) → c + ntC (kT T n) s (k + c) = ntC (kT T n) 2000 k → 0 ≤ i → i ≤ k + c → d = ((c % 2 : Nat) : Int) →
      Tr (b_Reader_readFact_L4 S0 (f_RD S0 u') 35 f W d i) (fun _ U => PST T n N g (ntR (ntC (kT T n) 2000 k) (ps (tkK T n) ns m 11 (k + ntC (kT T n) 2000 k) o)) V U) := by
    intro f
    induction f with
    | zero => intro s c i d W h1 h2 h3; have := h3.1; omega
    | succ f ih =>
      intro s c i d W hf hs hW fW eW hc i0 i1 hd
      obtain ⟨s', es⟩ : ∃ s', s = s' + 1 := ⟨s - 1, by have := hW.1; omega⟩
      subst es
      have hkc := hW.1
      have hXW := hW.2.2.1
      have h3W := hW.2.2.2.2.1
      rw [ntC] at hc
      have hend : kT T n (k + c) ≠ 266 → Tr (b_Reader_readFact_J41 S0 (f_RD S0 u') W 35 d) (fun _ U => PST T n N g (ntR (ntC (kT T n) 2000 k) (ps (tkK T n) ns m 11 (k + ntC (kT T n) 2000 k) o)) V U) := by
        intro z
        rw [if_neg z, Nat.add_zero] at hc
        rw [← hc]
        rw [← hc] at h9'
        have hdd : d = 0 ∨ (d = 1 ∧ W (g + 1) 2 < k + c) := by
          rw [fW (g + 1) (by omega)]
          by_cases q : c % 2 = 1
          · exact Or.inr ⟨by omega, by omega⟩
          · exact Or.inl (by omega)
        refine Tr_mono (ib (k + c) o u' d W hW (by unfold nee at *; omega) hdd h9') ?_
        rintro _ U hU
        have hst := PST_st hg eW fW hU
        have e2 : (ntX d (ps (tkK T n) ns m 11 (k + c) o)).1 = (ntR c (ps (tkK T n) ns m 11 (k + c) o)).1 ∧ (ntX d (ps (tkK T n) ns m 11 (k + c) o)).2.1 = (ntR c (ps (tkK T n) ns m 11 (k + c) o)).2.1 ∧ (ntX d (ps (tkK T n) ns m 11 (k + c) o)).2.2.2 = (ntR c (ps (tkK T n) ns m 11 (k + c) o)).2.2.2 := by
          unfold ntX ntR
          by_cases q : (ps (tkK T n) ns m 11 (k + c) o).1 = 0
          · rw [if_pos q, if_pos q]
            refine ⟨rfl, rfl, ?_⟩
            by_cases y : c % 2 = 1
            · rw [if_pos y, if_pos (by omega)]
            · rw [if_neg y, if_neg (by omega)]
          · rw [if_neg q, if_neg q]; exact ⟨rfl, rfl, rfl⟩
        unfold PST at *
        rw [e2.1, e2.2.1, e2.2.2] at hst
        exact hst
      rw [b_Reader_readFact_L4]
      by_cases z : kT T n (k + c) = 266
      · have hkN : k + c < N := lt_of_t hN hkc.2 (show kT T n (k + c) ≠ 0 by omega) (show kT T n (k + c) ≠ 1 by omega)
        refine Tr_f (by omega) (Tr_bq (C_type hXW h3W hkc) (Tr_t z ?_))
        refine Tr_bnd (C_step hXW h3W ⟨hkc.1, hkN⟩) ?_
        rintro _ U1 ⟨e1, f1⟩
        have p1 := prC_st hg hW hkN e1 f1
        rw [if_pos z] at hc
        rw [w32_id (x := i + 1) (by omega) (by omega)]
        have ek : k + (c : Int) + 1 = k + ((c + 1 : Nat) : Int) := by omega
        rw [ek] at p1 hc e1
        have eW1 : U1 35 = upI (V 35) 3 (k + ((c + 1 : Nat) : Int)) := by rw [e1, eW, upI_upI]
        have fin : ∀ d', d' = (((c + 1) % 2 : Nat) : Int) → Tr (b_Reader_readFact_L4 S0 (f_RD S0 u') 35 f U1 d' (i + 1)) (fun _ U => PST T n N g (ntR (ntC (kT T n) 2000 k) (ps (tkK T n) ns m 11 (k + ntC (kT T n) 2000 k) o)) V U) := fun d' hd' => ih s' (c + 1) (i + 1) d' U1 (by omega) (by omega) p1 (fun a ha => by rw [f1 a ha, fW a ha]) eW1 (by omega) (by omega) (by omega) hd'
        exact Tr_if (fun q => fin 1 (by omega)) (fun q => fin 0 (by omega))
      · exact Tr_if (fun _ => hend z) (fun _ => Tr_bq (C_type hXW h3W hkc) (Tr_f z (hend z)))
  have h3 := h.2.2.2.2.1
  have := hlp FU 2000 0 0 0 V (by rw [FU_v]; omega) (by omega) (by rw [show k + ((0 : Nat) : Int) = k by omega]; exact h) (fun _ _ => rfl) (by rw [show k + ((0 : Nat) : Int) = k by omega, ← h3, upI_id]) (by rw [show k + ((0 : Nat) : Int) = k by omega, Nat.zero_add]) (by omega) (by omega) rfl
  exact this
theorem CL_cmp {T : Int → Int} {n N g : Int} {ns : List (List Int)} {m : Nat} (hg : isGm g) (hN : lsT (tkK T n) N) (i6 : CLf T n N g ns m 6 4) : CLc T n N g ns (m + 1) := by
  have hN' : kT T n N = 0 ∨ kT T n N = 1 := hN
  have hgr := gm_r hg
  intro k o u V h hu h9
  have hk := h.1
  have ho := h.2.1
  have hNN := h.2.2.1.2.2.2
  have e : ps (tkK T n) ns (m + 1) 5 k o = sqR (ps (tkK T n) ns m 6 k o) (fun k => if kT T n k = 60 then sqR (ps (tkK T n) ns m 6 (k + 1) o) (fun k => okR k [(17, 0)]) else if kT T n k = 62 then sqR (ps (tkK T n) ns m 6 (k + 1) o) (fun k => okR k [(18, 0)]) else if kT T n k = 61 then sqR (ps (tkK T n) ns m 6 (k + 1) o) (fun k => okR k [(19, 0)]) else flR (tkK T n) 1 k) := rfl
  rw [e] at h9 ⊢
  have h99 := sqR_9 h9
  unfold cCmp
  refine Tr_bnd (i6 k o u V h hu h99.1) ?_
  rintro _ U hU
  have ha : adv N k 1 (ps (tkK T n) ns m 6 k o) := ps_adv (ns := ns) hN m 6 k o hk.2
  by_cases z : (ps (tkK T n) ns m 6 k o).1 = 0
  · have p2 := prC_ok hg h ha (by omega) z hU
    have h9b := h99.2 z
    have hv := ha z
    refine Tr_mono ?_ (fun r W hW => PST_sq (f := fun k => if kT T n k = 60 then sqR (ps (tkK T n) ns m 6 (k + 1) o) (fun k => okR k [(17, 0)]) else if kT T n k = 62 then sqR (ps (tkK T n) ns m 6 (k + 1) o) (fun k => okR k [(18, 0)]) else if kT T n k = 61 then sqR (ps (tkK T n) ns m 6 (k + 1) o) (fun k => okR k [(19, 0)]) else flR (tkK T n) 1 k) z hU hW)
    have h9c : (if kT T n (ps (tkK T n) ns m 6 k o).2.1 = 60 then sqR (ps (tkK T n) ns m 6 ((ps (tkK T n) ns m 6 k o).2.1 + 1) o) (fun k => okR k [(17, 0)]) else if kT T n (ps (tkK T n) ns m 6 k o).2.1 = 62 then sqR (ps (tkK T n) ns m 6 ((ps (tkK T n) ns m 6 k o).2.1 + 1) o) (fun k => okR k [(18, 0)]) else if kT T n (ps (tkK T n) ns m 6 k o).2.1 = 61 then sqR (ps (tkK T n) ns m 6 ((ps (tkK T n) ns m 6 k o).2.1 + 1) o) (fun k => okR k [(19, 0)]) else flR (tkK T n) 1 (ps (tkK T n) ns m 6 k o).2.1).1 ≠ 9 := h9b
    clear h9b h9 h99
    generalize (ps (tkK T n) ns m 6 k o).2.1 = j at *
    have hkj := p2.1
    have hXU := p2.2.2.1
    have h3U := p2.2.2.2.2.1
    have hco := C_comp hXU h3U hkj
    have one : ∀ (c : Int × Int), (kT T n j ≠ 0 ∧ kT T n j ≠ 1) → cmw c ≠ -1 → f_Reader_comparisonTold S0 U 35 = some (cmw c, U) → (sqR (ps (tkK T n) ns m 6 (j + 1) o) (fun k => okR k [c])).1 ≠ 9 → Tr (bnd (f_Reader_comparisonTold S0 U 35) (fun r4 V5 => if r4 = -1 then bnd (f_Reader_fail S0 V5 35 1) (fun r18 V19 => some (0, V19)) else bnd (f_Reader_step S0 V5 35) (fun r7 V8 => bnd (f_RD S0 u 4 V8 35 0) (fun r10 V11 => gd (isO S0 (V11 35 4) 1) (gd (isO S0 (aF S0 (V11 35 4) 5) 8) (bnd (f_Tests_emit S0 V11 (aF S0 (V11 35 4) 5) r4) (fun r14 V15 => some (0, V15)))))))) (fun _ W => PST T n N g (sqR (ps (tkK T n) ns m 6 (j + 1) o) (fun k => okR k [c])) U W) := by
      intro c ht hc1 hcc h9d
      have hjN : j < N := lt_of_t hN hkj.2 ht.1 ht.2
      have h98 := sqR_9 h9d
      refine Tr_bq hcc (Tr_f hc1 (Tr_bnd (C_step hXU h3U ⟨hkj.1, hjN⟩) ?_))
      rintro _ U1 ⟨e1, f1⟩
      have p1 := prC_st hg p2 hjN e1 f1
      have hl1 : U1 (g + 1) 2 < j + 1 := by
        rw [f1 (g + 1) (by omega)]
        have := p2.2.2.2.2.2.2.1
        omega
      have ha2 : adv N (j + 1) 1 (ps (tkK T n) ns m 6 (j + 1) o) := ps_adv (ns := ns) hN m 6 (j + 1) o (by omega)
      refine Tr_bnd (i6 (j + 1) o u U1 p1 hu h98.1) ?_
      rintro _ U2 hU2
      have e4 : U2 35 4 = g := by rw [hU2.1.2.1 4 (by decide) (by decide) (by decide) (by decide)]; exact p1.2.2.1.2.1
      rw [e4, gd_t (OG hg), (O_g5 hg).1, gd_t (O_g5 hg).2]
      by_cases y : (ps (tkK T n) ns m 6 (j + 1) o).1 = 0
      · refine Tr_bnd (C_emitO (k0 := j) hg p1 hl1 ha2 y hU2 c) ?_
        rintro _ U3 ⟨w1, w2⟩
        exact Tr_ret (PST_st hg e1 f1 w1)
      · refine Tr_bnd (C_emitM hg (hU2.2.2 y) (cmw c)) ?_
        rintro _ U3 hU3
        exact Tr_ret (PST_st hg e1 f1 (PST_sqF y hU2 hU3))
    by_cases c : kT T n j = 60
    · rw [if_pos c] at h9c ⊢
      refine one (17, 0) (by omega) (by decide) ?_ h9c
      rw [hco, if_pos c]; rfl
    rw [if_neg c] at h9c ⊢
    by_cases c2 : kT T n j = 62
    · rw [if_pos c2] at h9c ⊢
      refine one (18, 0) (by omega) (by decide) ?_ h9c
      rw [hco, if_neg c, if_neg (show ¬ (kT T n j = 61) by omega), if_pos c2]; rfl
    rw [if_neg c2] at h9c ⊢
    by_cases c3 : kT T n j = 61
    · rw [if_pos c3] at h9c ⊢
      refine one (19, 0) (by omega) (by decide) ?_ h9c
      rw [hco, if_neg c, if_pos c3]; rfl
    · rw [if_neg c3]
      refine Tr_bq hco ?_
      rw [if_neg c, if_neg c3, if_neg c2]
      refine Tr_t rfl (Tr_bnd (C_failN hg hXU h3U hkj p2.2.2.2.1 (by decide)) ?_)
      rintro _ W hW
      exact Tr_ret (PST_fl (by decide) hW)
  · have hF := hU.2.2 z
    refine Tr_bq (C_comp hF.1 hF.2.2.2.2 ⟨hF.1.2.2.2.1, Int.le_refl N⟩) ?_
    rw [if_neg (show ¬ (kT T n N = 60) by omega), if_neg (show ¬ (kT T n N = 61) by omega), if_neg (show ¬ (kT T n N = 62) by omega)]
    refine Tr_t rfl (Tr_bnd (C_failM hg hF) ?_)
    rintro _ W hW
    exact Tr_ret (PST_sqF z hU hW)
