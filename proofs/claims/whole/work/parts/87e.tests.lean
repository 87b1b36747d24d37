/-! the machine follows the grammar: tests -/
theorem mT_11 {K : TKs} {ns : List (List Int)} {H : Int → Int} {N : Int} {m : Nat} (hC : mCX K H N) (h0 : mT K ns H N m 0 1 5 (fun _ => True) (fun p j => okP K p j ∧ K.1 j ≠ 272 ∧ K.1 j ≠ 271)) (h5 : mT K ns H N m 5 4 3 (fun k => K.1 k ≠ 266 ∧ K.1 k ≠ 91 ∧ K.1 k ≠ 273) (okP K)) : mT K ns H N (m + 1) 11 4 3 (fun k => K.1 k ≠ 266) (okP K) := by
  intro k o kd pr bs r os cs hkd hP hc hbg h9
  have hg : gdS k ((kd, 0, 1, pr, bs) :: r) os cs := gd_s hC hP (by decide) hc
  have hkN := hP.2.2.2.1
  have hk0 := hP.2.2.1.1
  have ho : (r.length : Int) = o := hP.1
  have hst : K.1 k ≠ 1 → stp K ns H (k, 0, (kd, 0, 1, pr, bs) :: r, os, cs) = stO K ns k kd 0 1 pr bs r os cs := fun h1 => st_O hg (fun z => h1 (hC.2.1 k z))
  have e : ps K ns (m + 1) 11 k o = if K.1 k = 91 then (if o = 8 then flR K 5 k else sqR (ps K ns m 0 (k + 1) (o + 1)) (fun k => if K.1 k = 93 then okR (k + 1) [] else flR K 1 k)) else if K.1 k = 273 then okR (k + 1) [(9, 0)] else ps K ns m 5 k o := rfl
  rw [e] at h9 ⊢
  by_cases c : K.1 k = 91
  · rw [if_pos c] at h9 ⊢
    have hs0 := hst (by omega)
    unfold stO opnS at hs0
    rw [if_neg (fun z => hbg z.2.2), if_pos ⟨hkd, rfl, c⟩] at hs0
    by_cases d : o = 8
    · rw [if_pos (show (r.length : Int) = 8 by omega)] at hs0
      rw [if_pos d]
      exact OUT_fl (by decide) hkN hs0
    · rw [if_neg (show ¬ (r.length : Int) = 8 by omega)] at hs0
      rw [if_neg d] at h9 ⊢
      have hk1 : k < N := lt_of_t hC.1 hkN (by omega) (by omega)
      obtain ⟨n1, -⟩ := sqR_9 h9
      have hsub := h0 (k + 1) (o + 1) 5 0 (os.length : Int) ((kd, 0, 0, pr, bs) :: r) os cs (Or.inr rfl) (PRm_b hP d (by omega) (by omega) (by decide) (by decide)) (by omega) trivial n1
      refine OUT_f1 (fun f => mR_l hs0 f) hsub (fun a j ph1 x p hj hm hx hr hl hp => OUT_sqb a hj hm ?_)
      have hv := ps_adv (ns := ns) hC.1 m 0 (k + 1) (o + 1) (by omega) a
      rw [show lpN 0 = 1 from rfl] at hv
      generalize (ps K ns m 0 (k + 1) (o + 1)) = A at *
      obtain ⟨hp1, hp2⟩ := hp
      have hln := ln_x hx
      have hPj : PRm K N 1 5 (k + 1) A.2.1 (o + 1) (os.length : Int) ((kd, 0, 0, pr, bs) :: r) os := PRm_k (PRm_b hP d (by omega) (by omega) (by decide) (by decide)) (by omega) hv.2.1
      have hgj : gdS A.2.1 ((5, ph1, 0, 0, (os.length : Int)) :: (kd, 0, 0, pr, bs) :: r) (p ++ os) (cs ++ x) := gd_l hC hPj hl (by simp only [List.length_append]; omega)
      have h4 := stG_c5 (K := K) (k := A.2.1) (ph := ph1) (pq := 0) (kd := kd) (ph0 := 0) (pr := pr) (bs := bs) (r := r) (os := os) (p := p) (cs := cs ++ x) hp1 hp2
      rw [ap_w hx] at h4
      exact OUT_cls (phx := 2) hgj (hC.2.1 _) (by decide) hv.2.1 (by decide) (nk_m (by omega)) (Or.inr rfl) h4
  rw [if_neg c] at h9 ⊢
  by_cases c1 : K.1 k = 273
  · rw [if_pos c1]
    refine OUT_leaf (ph := 2) ?_ (by decide) (Or.inr rfl)
    rw [hst (by omega)]
    unfold stO
    rw [if_neg (fun z => hbg z.2.2), if_neg (fun z => c z.2.2), if_pos ⟨hkd, rfl, c1⟩]
  · rw [if_neg c1] at h9 ⊢
    exact h5 k o kd pr bs r os cs hkd hP hc ⟨hbg, c, c1⟩ h9
/-- a row of nots -/
theorem m_nots {K : TKs} {ns : List (List Int)} {H : Int → Int} {N o kd pr bs : Int} {r : List FR} {cs : CDs} (hC : mCX K H N) (hkd : kd = 1 ∨ kd = 5) (ho : (r.length : Int) = o ∧ o ≤ 8) : ∀ (c : Nat) (k : Int) (os : List Int), 0 ≤ k → k + (c : Int) ≤ N → (∀ i : Nat, i < c → K.1 (k + i) = 266) → (os.length : Int) ≤ nk K k + 5 * o + 5 → (cs.length : Int) + (os.length : Int) + o ≤ k →
    nk K (k + c) = nk K k + c ∧ ∀ f, mR K ns H (f + c) (k, 0, (kd, 0, 1, pr, bs) :: r, os, cs) = mR K ns H f (k + c, 0, (kd, 0, 1, pr, bs) :: r, List.replicate c 22 ++ os, cs) := by
  intro c
  induction c with
  | zero =>
    intro k os _ _ _ _ _
    rw [show k + ((0 : Nat) : Int) = k by omega]
    exact ⟨by omega, fun f => rfl⟩
  | succ c ih =>
    intro k os k0 kN hall hl hc
    have h0 : K.1 k = 266 := by have := hall 0 (by omega); rw [show k + ((0 : Nat) : Int) = k by omega] at this; exact this
    have hnk := nk_s k0 h0
    have h450 := hC.2.2.2 k k0 (by omega)
    obtain ⟨e1, e2⟩ := ih (k + 1) (22 :: os) (by omega) (by omega) (fun i hi => by have := hall (i + 1) (by omega); rw [show k + 1 + (i : Int) = k + ((i + 1 : Nat) : Int) by omega]; exact this) (by simp only [List.length_cons]; omega) (by simp only [List.length_cons]; omega)
    have hg : gdS k ((kd, 0, 1, pr, bs) :: r) os cs := ⟨by omega, by simp only [List.length_cons]; omega, by simp only [List.length_cons]; omega⟩
    have hst : stp K ns H (k, 0, (kd, 0, 1, pr, bs) :: r, os, cs) = some (Sum.inl (k + 1, 0, (kd, 0, 1, pr, bs) :: r, 22 :: os, cs)) := by
      rw [st_O hg (fun z => by have := hC.2.1 k z; omega)]
      unfold stO
      rw [if_pos ⟨hkd, rfl, h0⟩]
    rw [show k + ((c + 1 : Nat) : Int) = k + 1 + (c : Int) by omega]
    refine ⟨by omega, fun f => ?_⟩
    rw [show f + (c + 1) = (f + c) + 1 by omega, mR_l hst, e2, show List.replicate c (22 : Int) ++ 22 :: os = List.replicate (c + 1) 22 ++ os by rw [List.replicate_succ', List.append_assoc]; rfl]
theorem mT_4 {K : TKs} {ns : List (List Int)} {H : Int → Int} {N : Int} {m : Nat} (hC : mCX K H N) (h11 : mT K ns H N m 11 4 3 (fun k => K.1 k ≠ 266) (okP K)) : mT K ns H N (m + 1) 4 3 3 (fun _ => True) (okP K) := by
  intro k o kd pr bs r os cs hkd hP hc _ h9
  obtain ⟨ho, ho8, ⟨k0, -⟩, hkN, hlow, hbs, hlen⟩ := hP
  have hcr := ntC_r (ty := K.1) (N := N) (by have := hC.1; unfold lsT at this; omega) 2000 k hkN
  have hca := ntC_a (ty := K.1) 2000 k
  have hcn := ntC_n (ty := K.1) 2000 k (by have := hC.2.2.1; omega)
  have e : ps K ns (m + 1) 4 k o = ntR (ntC K.1 2000 k) (ps K ns m 11 (k + ntC K.1 2000 k) o) := rfl
  rw [e] at h9 ⊢
  generalize ntC K.1 2000 k = c at *
  obtain ⟨hn1, hn2⟩ := m_nots (ns := ns) (pr := pr) (bs := bs) (cs := cs) hC hkd ⟨ho, ho8⟩ c k os k0 hcr hca (by omega) hc
  have hrl : (List.replicate c (22 : Int) ++ os).length = c + os.length := by rw [List.length_append, List.length_replicate]
  have hlow2 : lowO bs 4 (List.replicate c 22 ++ os) := by
    cases c with
    | zero => exact lowO_m hlow (by decide)
    | succ c => exact lowO_c (show rkO 22 < 4 by decide)
  have n1 : (ps K ns m 11 (k + c) o).1 ≠ 9 := by
    unfold ntR at h9
    by_cases z : (ps K ns m 11 (k + c) o).1 = 0
    · omega
    · rw [if_neg z] at h9; exact h9
  have hsub := h11 (k + c) o kd pr bs r (List.replicate c 22 ++ os) cs hkd ⟨ho, ho8, ⟨by omega, by omega⟩, hcr, hlow2, by omega, by omega⟩ (by omega) hcn n1
  generalize ps K ns m 11 (k + c) o = A at *
  unfold ntR
  by_cases a : A.1 = 0
  · rw [if_pos a]
    obtain ⟨j, x, p, ph, hj, hm, hx, hr, hl, hp⟩ := hsub.1 a
    refine ⟨fun _ => ⟨j + c, x, p ++ List.replicate c 22, ph, ?_, fun f => ?_, ?_, fun q hq => ?_, ?_, hp⟩, fun z => absurd rfl z⟩
    · show ((j + c : Nat) : Int) ≤ A.2.1 - k
      omega
    · show mR K ns H (f + (j + c)) _ = mR K ns H f (A.2.1, 1, (kd, ph, 0, pr, bs) :: r, (p ++ List.replicate c 22) ++ os, cs ++ x)
      rw [show f + (j + c) = (f + j) + c by omega, hn2, hm, List.append_assoc]
    · show x ++ (p ++ List.replicate c 22).map zO = [] ++ (A.2.2.1 ++ List.replicate c (22, 0))
      rw [List.map_append, ← List.append_assoc, hx, List.map_replicate]
      rfl
    · rcases List.mem_append.mp hq with h | h
      · have := hr q h; omega
      · rw [List.eq_of_mem_replicate h]; decide
    · show (((p ++ List.replicate c (22 : Int)).length : Nat) : Int) ≤ nk K A.2.1 - nk K k + 3
      rw [List.length_append, List.length_replicate]
      omega
  · rw [if_neg a]
    obtain ⟨j, cc, hj, hm⟩ := hsub.2 a
    exact ⟨fun z => absurd z a, fun _ => ⟨j + c, cc, by omega, fun f => by rw [show f + (j + c) = (f + j) + c by omega, hn2, hm]⟩⟩
theorem mT_5 {K : TKs} {ns : List (List Int)} {H : Int → Int} {N : Int} {m : Nat} (hC : mCX K H N) (h6 : mA K ns H N m 6 5 2 (fS K)) : mT K ns H N (m + 1) 5 4 3 (fun k => K.1 k ≠ 266 ∧ K.1 k ≠ 91 ∧ K.1 k ≠ 273) (okP K) := by
  intro k o kd pr bs r os cs hkd hP hc hbg h9
  have e : ps K ns (m + 1) 5 k o = sqR (ps K ns m 6 k o) (fun k => if K.1 k = 60 then sqR (ps K ns m 6 (k + 1) o) (fun k => okR k [(17, 0)]) else if K.1 k = 62 then sqR (ps K ns m 6 (k + 1) o) (fun k => okR k [(18, 0)]) else if K.1 k = 61 then sqR (ps K ns m 6 (k + 1) o) (fun k => okR k [(19, 0)]) else flR K 1 k) := rfl
  rw [e] at h9 ⊢
  obtain ⟨n1, n2⟩ := sqR_9 h9
  have hk0 := hP.2.2.1.1
  refine OUT_seq (h6 k o kd 0 1 pr bs r os cs (PRm_m hP (by decide) (by decide)) hc (by decide) (fun _ _ => hbg) n1) (fun a ph1 x p hx hr hl hp => ?_)
  have hv := ps_adv (ns := ns) hC.1 m 6 k o hP.2.2.2.1 a
  rw [show lpN 6 = 1 from rfl] at hv
  have n2' := n2 a
  clear n1 n2 h9 e
  generalize ps K ns m 6 k o = A at *
  obtain ⟨hp1, hp2⟩ := hp
  subst hp1
  have hln := ln_x hx
  have hPj : PRm K N 5 2 k A.2.1 o bs r os := PRm_k (PRm_m hP (by decide) (by decide)) (by omega) hv.2.1
  have hgj : gdS A.2.1 ((kd, 0, 0, pr, bs) :: r) (p ++ os) (cs ++ x) := gd_l hC hPj hl (by simp only [List.length_append]; omega)
  have hf := hp2
  unfold fS at hf
  have hcm : ∀ op : Int, (K.1 A.2.1 = 60 ∨ K.1 A.2.1 = 62 ∨ K.1 A.2.1 = 61) → cmO (K.1 A.2.1) = op → rkO op = 4 → (sqR (ps K ns m 6 (A.2.1 + 1) o) (fun k => okR k [(op, 0)])).1 ≠ 9 → OUT K ns H N 4 3 k A.2.1 (A.2.1, 1, (kd, 0, 0, pr, bs) :: r, p ++ os, cs ++ x) kd (pr, bs) r os (cs ++ x) (p.map zO) (okP K) (sqR (ps K ns m 6 (A.2.1 + 1) o) (fun k => okR k [(op, 0)])) := by
    intro op hty hcmo hrk hn
    have hjN : A.2.1 < N := lt_of_t hC.1 hv.2.1 (by omega) (by omega)
    have hst : stp K ns H (A.2.1, 1, (kd, 0, 0, pr, bs) :: r, p ++ os, cs ++ x) = some (Sum.inl (A.2.1 + 1, 0, (kd, 1, 0, pr, bs) :: r, op :: os, cs ++ x ++ p.map zO)) := by
      rw [st_G hgj (fun z => by have := hC.2.1 _ z; omega)]
      unfold stG
      rw [if_neg (fun z => by omega), if_pos ⟨hkd, rfl, hty⟩, hcmo, jnO_all hPj.2.2.2.2.2.1 hPj.2.2.2.2.1 p (cs ++ x) hr]
    have hPm : PRm K N 4 3 k A.2.1 o bs r os := PRm_k hP (by omega) hv.2.1
    have hsub := h6 (A.2.1 + 1) o kd 1 0 pr bs r (op :: os) (cs ++ x ++ p.map zO) (PRm_o hPm (by omega) (by decide) hjN) (by simp only [List.length_append, List.length_map, List.length_cons]; omega) (by decide) (fun _ z => absurd z (by decide)) (sqR_9 hn).1
    have hph := OUT_ph (PH := okP K) hsub (fun q hq => Or.inl hq)
    exact OUT_op (fun f => mR_l hst f) hph (by decide) (by omega) (by decide) (nk_m (by omega))
  by_cases c1 : K.1 A.2.1 = 60
  · rw [if_pos c1] at n2' ⊢
    exact hcm 17 (by omega) (by rw [c1]; rfl) rfl n2'
  rw [if_neg c1] at n2' ⊢
  by_cases c2 : K.1 A.2.1 = 62
  · rw [if_pos c2] at n2' ⊢
    exact hcm 18 (by omega) (by rw [c2]; rfl) rfl n2'
  rw [if_neg c2] at n2' ⊢
  by_cases c3 : K.1 A.2.1 = 61
  · rw [if_pos c3] at n2' ⊢
    exact hcm 19 (by omega) (by rw [c3]; rfl) rfl n2'
  rw [if_neg c3]
  refine OUT_fl (c := cs ++ x) (by decide) hv.2.1 (st_fG hgj ?_)
  unfold stG
  rw [if_neg (fun z => by omega), if_neg (fun z => by omega)]
  by_cases c4 : (kd = 1 ∨ kd = 5) ∧ (K.1 A.2.1 = 272 ∨ K.1 A.2.1 = 271)
  · rw [if_pos c4, if_pos rfl]
  · rw [if_neg c4, if_pos ⟨hkd, rfl⟩]
/-- the machine does as the grammar says -/
theorem mAll {K : TKs} {ns : List (List Int)} {H : Int → Int} {N : Int} (hC : mCX K H N) : ∀ m : Nat,
    mT K ns H N m 0 1 5 (fun _ => True) (fun p j => okP K p j ∧ K.1 j ≠ 272 ∧ K.1 j ≠ 271) ∧ mV K ns H N m 1 1 5 (fun p j => okP K p j ∧ K.1 j ≠ 272) (fun p j => okP K p j ∧ K.1 j ≠ 272 ∧ K.1 j ≠ 271) ∧
    mT K ns H N m 2 2 4 (fun _ => True) (fun p j => okP K p j ∧ K.1 j ≠ 272) ∧ mV K ns H N m 3 2 4 (okP K) (fun p j => okP K p j ∧ K.1 j ≠ 272) ∧
    mT K ns H N m 4 3 3 (fun _ => True) (okP K) ∧ mT K ns H N m 5 4 3 (fun k => K.1 k ≠ 266 ∧ K.1 k ≠ 91 ∧ K.1 k ≠ 273) (okP K) ∧
    mA K ns H N m 6 5 2 (fS K) ∧ mL K ns H N m 7 5 2 (fP K) (fS K) ∧ mA K ns H N m 8 6 1 (fP K) ∧ mL K ns H N m 9 6 1 (fun _ => True) (fP K) ∧ mA K ns H N m 10 7 0 (fun _ => True) ∧
    mT K ns H N m 11 4 3 (fun k => K.1 k ≠ 266) (okP K) ∧ mP K ns H N m 12 277 ∧ mP K ns H N m 13 278 := by
  intro m
  induction m with
  | zero =>
    refine ⟨?_, ?_, ?_, ?_, ?_, ?_, ?_, ?_, ?_, ?_, ?_, ?_, ?_, ?_⟩
    · intro _ _ _ _ _ _ _ _ _ _ _ _ h9; exact absurd rfl h9
    · intro _ _ _ _ _ _ _ _ _ _ _ _ _ _ _ _ _ h9; exact absurd rfl h9
    · intro _ _ _ _ _ _ _ _ _ _ _ _ h9; exact absurd rfl h9
    · intro _ _ _ _ _ _ _ _ _ _ _ _ _ _ _ _ _ h9; exact absurd rfl h9
    · intro _ _ _ _ _ _ _ _ _ _ _ _ h9; exact absurd rfl h9
    · intro _ _ _ _ _ _ _ _ _ _ _ _ h9; exact absurd rfl h9
    · intro _ _ _ _ _ _ _ _ _ _ _ _ _ _ h9; exact absurd rfl h9
    · intro _ _ _ _ _ _ _ _ _ _ _ _ _ _ _ _ _ h9; exact absurd rfl h9
    · intro _ _ _ _ _ _ _ _ _ _ _ _ _ _ h9; exact absurd rfl h9
    · intro _ _ _ _ _ _ _ _ _ _ _ _ _ _ _ _ _ h9; exact absurd rfl h9
    · intro _ _ _ _ _ _ _ _ _ _ _ _ _ _ h9; exact absurd rfl h9
    · intro _ _ _ _ _ _ _ _ _ _ _ _ h9; exact absurd rfl h9
    · intro _ _ _ _ _ _ _ _ _ _ _ _ _ h9; exact absurd rfl h9
    · intro _ _ _ _ _ _ _ _ _ _ _ _ _ h9; exact absurd rfl h9
  | succ m ih =>
    obtain ⟨a0, a1, a2, a3, a4, a5, a6, a7, a8, a9, a10, a11, a12, a13⟩ := ih
    have pz : ∀ {ph k : Int}, okP K ph k → ph ≠ 0 := fun {ph k} h => by unfold okP at h; omega
    refine ⟨mT_two hC rfl (by decide) (by decide) a2 a1 (fun _ _ => rfl), ?_, mT_two hC rfl (by decide) (by decide) a4 a3 (fun _ _ => rfl), ?_, mT_4 hC a11, mT_5 hC a6, mA_two hC rfl (by decide) (by decide) a8 a7 (fun _ _ => rfl), ?_, mA_two hC rfl (by decide) (by decide) a10 a9 (fun _ _ => rfl), ?_, mA_10 hC a6 a12 a13, mT_11 hC a0 a5, mP_all hC a6 (Or.inl ⟨rfl, rfl⟩) (fun _ _ => rfl), mP_all hC a6 (Or.inr ⟨rfl, rfl⟩) (fun _ _ => rfl)⟩
    · intro kb k o kd ph pr bs r os p cs hkd hP hr hl hc hi h9
      have e : ps K ns (m + 1) 1 k o = if K.1 k = 271 then sqR (sqR (ps K ns m 2 (k + 1) o) (fun k => okR k [(21, 0)])) (fun k => ps K ns m 1 k o) else okR k [] := rfl
      rw [e] at h9 ⊢
      by_cases c : K.1 k = 271
      · rw [if_pos c] at h9 ⊢
        exact mV_go hC rfl a2 a1 (by decide) (by decide) rfl hkd hP hr hl hc (pz hi.1) (Or.inr c) (if_neg (by omega)) (if_neg (by omega)) h9
      · rw [if_neg c]
        exact OUT_stop hr hl ⟨hi.1, hi.2, c⟩
    · intro kb k o kd ph pr bs r os p cs hkd hP hr hl hc hi h9
      have e : ps K ns (m + 1) 3 k o = if K.1 k = 272 then sqR (sqR (ps K ns m 4 (k + 1) o) (fun k => okR k [(20, 0)])) (fun k => ps K ns m 3 k o) else okR k [] := rfl
      rw [e] at h9 ⊢
      by_cases c : K.1 k = 272
      · rw [if_pos c] at h9 ⊢
        exact mV_go hC rfl a4 a3 (by decide) (by decide) rfl hkd hP hr hl hc (pz hi) (Or.inl c) (if_pos c) (if_pos c) h9
      · rw [if_neg c]
        exact OUT_stop hr hl ⟨hi, c⟩
    · intro kb k o kd ph pr bs r os p cs hP hr hl hc hph hi h9
      have e : ps K ns (m + 1) 7 k o = if K.1 k = 43 then sqR (sqR (ps K ns m 8 (k + 1) o) (fun k => okR k [(10, 0)])) (fun k => ps K ns m 7 k o) else if K.1 k = 45 then sqR (sqR (ps K ns m 8 (k + 1) o) (fun k => okR k [(11, 0)])) (fun k => ps K ns m 7 k o) else okR k [] := rfl
      rw [e] at h9 ⊢
      by_cases c : K.1 k = 43
      · rw [if_pos c] at h9 ⊢
        exact mL_go hC rfl a8 a7 (by decide) (by decide) rfl hP hr hl hc hph (by omega) (if_pos (by omega)) (by rw [c]; rfl) h9
      rw [if_neg c] at h9 ⊢
      by_cases c2 : K.1 k = 45
      · rw [if_pos c2] at h9 ⊢
        exact mL_go hC rfl a8 a7 (by decide) (by decide) rfl hP hr hl hc hph (by omega) (if_pos (by omega)) (by rw [c2]; rfl) h9
      rw [if_neg c2]
      exact OUT_stop hr hl ⟨rfl, hi, c, c2⟩
    · intro kb k o kd ph pr bs r os p cs hP hr hl hc hph hi h9
      have e : ps K ns (m + 1) 9 k o = if K.1 k = 42 then sqR (sqR (ps K ns m 10 (k + 1) o) (fun k => okR k [(12, 0)])) (fun k => ps K ns m 9 k o) else if K.1 k = 47 then sqR (sqR (ps K ns m 10 (k + 1) o) (fun k => okR k [(13, 0)])) (fun k => ps K ns m 9 k o) else if K.1 k = 37 then sqR (sqR (ps K ns m 10 (k + 1) o) (fun k => okR k [(14, 0)])) (fun k => ps K ns m 9 k o) else okR k [] := rfl
      rw [e] at h9 ⊢
      by_cases c : K.1 k = 42
      · rw [if_pos c] at h9 ⊢
        exact mL_go hC rfl a10 a9 (by decide) (by decide) rfl hP hr hl hc hph (by omega) (if_neg (by omega)) (by rw [c]; rfl) h9
      rw [if_neg c] at h9 ⊢
      by_cases c2 : K.1 k = 47
      · rw [if_pos c2] at h9 ⊢
        exact mL_go hC rfl a10 a9 (by decide) (by decide) rfl hP hr hl hc hph (by omega) (if_neg (by omega)) (by rw [c2]; rfl) h9
      rw [if_neg c2] at h9 ⊢
      by_cases c3 : K.1 k = 37
      · rw [if_pos c3] at h9 ⊢
        exact mL_go hC rfl a10 a9 (by decide) (by decide) rfl hP hr hl hc hph (by omega) (if_neg (by omega)) (by rw [c3]; rfl) h9
      rw [if_neg c3]
      exact OUT_stop hr hl ⟨rfl, c, c2, c3⟩
/-- a whole test -/
theorem m_test {K : TKs} {ns : List (List Int)} {H : Int → Int} {N k : Int} {m : Nat} {cs : CDs} (hC : mCX K H N) (hk : 0 ≤ k ∧ k ≤ N) (hc : (cs.length : Int) ≤ k) (h9 : (ps K ns m 0 k 0).1 ≠ 9) :
    ∃ j : Nat, (j : Int) ≤ N - k + 1 ∧ (((ps K ns m 0 k 0).1 = 0 ∧ H (ps K ns m 0 k 0).2.1 ≠ 1 ∧ ∀ f, mR K ns H (f + j) (k, 0, [(1, 0, 1, 0, 0)], [], cs) = some (0, (ps K ns m 0 k 0).2.1, cs ++ (ps K ns m 0 k 0).2.2.1)) ∨
      ((ps K ns m 0 k 0).1 = 0 ∧ H (ps K ns m 0 k 0).2.1 = 1 ∧ ∃ c, ∀ f, mR K ns H (f + j) (k, 0, [(1, 0, 1, 0, 0)], [], cs) = some (1, K.2.1 (ps K ns m 0 k 0).2.1, c)) ∨
      ((ps K ns m 0 k 0).1 ≠ 0 ∧ ∃ c, ∀ f, mR K ns H (f + j) (k, 0, [(1, 0, 1, 0, 0)], [], cs) = some ((ps K ns m 0 k 0).1, (ps K ns m 0 k 0).2.1, c))) := by
  have hP : PRm K N 1 5 k k 0 0 [] [] := ⟨rfl, by decide, ⟨hk.1, by omega⟩, hk.2, lowO_b rfl, Int.le_refl _, by have := nk_0 (K := K) k; simp only [List.length_nil]; omega⟩
  have h := (mAll (ns := ns) hC m).1 k 0 1 0 0 [] [] cs (Or.inl rfl) hP (by simp only [List.length_nil]; omega) trivial h9
  have hv := ps_adv (ns := ns) hC.1 m 0 k 0 hk.2
  rw [show lpN 0 = 1 from rfl] at hv
  generalize ps K ns m 0 k 0 = A at *
  by_cases a : A.1 = 0
  · obtain ⟨j, x, p, ph, hj, hm, hx, hr, hl, hp⟩ := h.1 a
    have hv' := hv a
    have hln := ln_x hx
    have hg : gdS A.2.1 [(1, ph, 0, 0, 0)] (p ++ []) (cs ++ x) := gd_l hC (PRm_k hP (by omega) hv'.2.1) hl (by simp only [List.length_append, List.length_nil]; omega)
    refine ⟨j + 1, by omega, ?_⟩
    by_cases hh : H A.2.1 = 1
    · refine Or.inr (Or.inl ⟨a, hh, cs ++ x, fun f => ?_⟩)
      rw [show f + (j + 1) = (f + 1) + j by omega, hm]
      refine mR_r ?_ f
      unfold stp
      rw [if_pos hg, if_pos hh]
    · refine Or.inl ⟨a, hh, fun f => ?_⟩
      rw [show f + (j + 1) = (f + 1) + j by omega, hm]
      refine mR_r ?_ f
      obtain ⟨hp1, hp2⟩ := hp
      unfold okP fS at hp1
      rw [st_G hg hh]
      unfold stG
      rw [if_neg (fun z => by omega), if_neg (fun z => by omega), if_neg (fun z => by omega), if_neg (fun z => by omega), if_pos (by decide), show jnO 0 1 (p ++ []) (cs ++ x) = ([], cs ++ x ++ p.map zO) from jnO_1 (os := []) p (cs ++ x), ap_w hx]
  · obtain ⟨j, c, hj, hm⟩ := h.2 a
    exact ⟨j, hj, Or.inr (Or.inr ⟨a, c, hm⟩)⟩
