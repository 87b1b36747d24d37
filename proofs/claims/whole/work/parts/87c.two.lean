/-! the machine follows the grammar: operators and rows of them -/
def mCX (K : TKs) (H : Int → Int) (N : Int) : Prop := lsT K N ∧ (∀ k, H k = 1 → K.1 k = 1) ∧ (0 ≤ N ∧ N ≤ 1800) ∧ (∀ k, 0 ≤ k → k ≤ N → nk K k ≤ 450)
def PRm (K : TKs) (N rr pl kb k o bs : Int) (r : List FR) (os : List Int) : Prop := (r.length : Int) = o ∧ o ≤ 8 ∧ (0 ≤ kb ∧ kb ≤ k) ∧ k ≤ N ∧ lowO bs rr os ∧ bs ≤ (os.length : Int) ∧ (os.length : Int) + pl ≤ nk K kb + 5 * o + 5
theorem PRm_m {K : TKs} {N rr pl rr' pl' kb k o bs : Int} {r : List FR} {os : List Int} (h : PRm K N rr pl kb k o bs r os) (h1 : rr ≤ rr') (h2 : pl' ≤ pl) : PRm K N rr' pl' kb k o bs r os := ⟨h.1, h.2.1, h.2.2.1, h.2.2.2.1, lowO_m h.2.2.2.2.1 h1, h.2.2.2.2.2.1, by have := h.2.2.2.2.2.2; omega⟩
theorem PRm_k {K : TKs} {N rr pl kb k j o bs : Int} {r : List FR} {os : List Int} (h : PRm K N rr pl kb k o bs r os) (h1 : k ≤ j) (h2 : j ≤ N) : PRm K N rr pl kb j o bs r os := ⟨h.1, h.2.1, ⟨h.2.2.1.1, by have := h.2.2.1.2; omega⟩, h2, h.2.2.2.2.1, h.2.2.2.2.2.1, h.2.2.2.2.2.2⟩
/-- what is to be read behind an operator -/
theorem PRm_o {K : TKs} {N rr pl rr' pl' kb k o bs op : Int} {r : List FR} {os : List Int} (h : PRm K N rr pl kb k o bs r os) (h1 : rkO op < rr') (h2 : pl' + 1 ≤ pl) (hk : k < N) : PRm K N rr' pl' (k + 1) (k + 1) o bs r (op :: os) := by
  obtain ⟨a, b, c, d, e, f, g⟩ := h
  have := nk_m (K := K) (show kb ≤ k + 1 by omega)
  exact ⟨a, b, ⟨by omega, by omega⟩, by omega, lowO_c h1, by simp only [List.length_cons]; omega, by simp only [List.length_cons]; omega⟩
theorem gd_s {K : TKs} {H : Int → Int} {N rr pl k o kd ph bg pr bs : Int} {r : List FR} {os : List Int} {cs : CDs} (hC : mCX K H N) (hP : PRm K N rr pl k k o bs r os) (h0 : 0 ≤ pl) (hc : (cs.length : Int) + (os.length : Int) + o ≤ k) : gdS k ((kd, ph, bg, pr, bs) :: r) os cs := by
  obtain ⟨a, b, c, d, e, f, g⟩ := hP
  have := hC.2.2.2 k c.1 d
  exact ⟨by omega, by simp only [List.length_cons]; omega, by simp only [List.length_cons]; omega⟩
theorem gd_l {K : TKs} {H : Int → Int} {N rr pl kb k o kd ph bg pr bs : Int} {r : List FR} {os p : List Int} {cs : CDs} (hC : mCX K H N) (hP : PRm K N rr pl kb k o bs r os) (hl : (p.length : Int) ≤ nk K k - nk K kb + pl) (hc : (cs.length : Int) + (p.length : Int) + (os.length : Int) + o ≤ k) : gdS k ((kd, ph, bg, pr, bs) :: r) (p ++ os) cs := by
  obtain ⟨a, b, c, d, e, f, g⟩ := hP
  have := hC.2.2.2 k (by omega) d
  exact ⟨by simp only [List.length_append]; omega, by simp only [List.length_cons, List.length_append]; omega, by simp only [List.length_cons]; omega⟩
def fP (K : TKs) (k : Int) : Prop := K.1 k ≠ 42 ∧ K.1 k ≠ 47 ∧ K.1 k ≠ 37
def fS (K : TKs) (k : Int) : Prop := (K.1 k ≠ 42 ∧ K.1 k ≠ 47 ∧ K.1 k ≠ 37) ∧ K.1 k ≠ 43 ∧ K.1 k ≠ 45
def okP (K : TKs) (ph k : Int) : Prop := (ph = 1 ∧ fS K k) ∨ ph = 2
def mA (K : TKs) (ns : List (List Int)) (H : Int → Int) (N : Int) (m nt : Nat) (rr pl : Int) (FO : Int → Prop) : Prop := ∀ (k o kd ph bg pr bs : Int) (r : List FR) (os : List Int) (cs : CDs), PRm K N rr pl k k o bs r os → (cs.length : Int) + (os.length : Int) + o ≤ k → ph < 2 → ((kd = 1 ∨ kd = 5) → bg = 1 → K.1 k ≠ 266 ∧ K.1 k ≠ 91 ∧ K.1 k ≠ 273) → (ps K ns m nt k o).1 ≠ 9 → OUT K ns H N rr pl k k (k, 0, (kd, ph, bg, pr, bs) :: r, os, cs) kd (pr, bs) r os cs [] (fun p j => p = ph ∧ FO j) (ps K ns m nt k o)
def mL (K : TKs) (ns : List (List Int)) (H : Int → Int) (N : Int) (m nt : Nat) (rr pl : Int) (FI FO : Int → Prop) : Prop := ∀ (kb k o kd ph pr bs : Int) (r : List FR) (os p : List Int) (cs : CDs), PRm K N rr pl kb k o bs r os → (∀ q, q ∈ p → rr ≤ rkO q) → (p.length : Int) ≤ nk K k - nk K kb + pl → (cs.length : Int) + (p.length : Int) + (os.length : Int) + o ≤ k → ph < 2 → FI k → (ps K ns m nt k o).1 ≠ 9 → OUT K ns H N rr pl kb k (k, 1, (kd, ph, 0, pr, bs) :: r, p ++ os, cs) kd (pr, bs) r os cs (p.map zO) (fun q j => q = ph ∧ FO j) (ps K ns m nt k o)
def mT (K : TKs) (ns : List (List Int)) (H : Int → Int) (N : Int) (m nt : Nat) (rr pl : Int) (BG : Int → Prop) (FO : Int → Int → Prop) : Prop := ∀ (k o kd pr bs : Int) (r : List FR) (os : List Int) (cs : CDs), (kd = 1 ∨ kd = 5) → PRm K N rr pl k k o bs r os → (cs.length : Int) + (os.length : Int) + o ≤ k → BG k → (ps K ns m nt k o).1 ≠ 9 → OUT K ns H N rr pl k k (k, 0, (kd, 0, 1, pr, bs) :: r, os, cs) kd (pr, bs) r os cs [] FO (ps K ns m nt k o)
def mV (K : TKs) (ns : List (List Int)) (H : Int → Int) (N : Int) (m nt : Nat) (rr pl : Int) (FI FO : Int → Int → Prop) : Prop := ∀ (kb k o kd ph pr bs : Int) (r : List FR) (os p : List Int) (cs : CDs), (kd = 1 ∨ kd = 5) → PRm K N rr pl kb k o bs r os → (∀ q, q ∈ p → rr ≤ rkO q) → (p.length : Int) ≤ nk K k - nk K kb + pl → (cs.length : Int) + (p.length : Int) + (os.length : Int) + o ≤ k → FI ph k → (ps K ns m nt k o).1 ≠ 9 → OUT K ns H N rr pl kb k (k, 1, (kd, ph, 0, pr, bs) :: r, p ++ os, cs) kd (pr, bs) r os cs (p.map zO) FO (ps K ns m nt k o)
theorem ln_x {x w : CDs} {p : List Int} (h : x ++ p.map zO = [] ++ w) : (x.length : Int) + (p.length : Int) = (w.length : Int) := by
  have := congrArg List.length h
  simp only [List.length_append, List.length_map, List.length_nil] at this
  omega
theorem ln_y {x w : CDs} {p q : List Int} (h : x ++ p.map zO = q.map zO ++ w) : (x.length : Int) + (p.length : Int) = (q.length : Int) + (w.length : Int) := by
  have := congrArg List.length h
  simp only [List.length_append, List.length_map] at this
  omega
theorem mA_two {K : TKs} {ns : List (List Int)} {H : Int → Int} {N rr1 pl1 rr pl : Int} {m nt q u : Nat} {FI FO : Int → Prop} (hC : mCX K H N) (hq : lpN q = 1) (hrr : rr ≤ rr1) (hpl : pl1 ≤ pl) (h1 : mA K ns H N m q rr1 pl1 FI) (h2 : mL K ns H N m u rr pl FI FO) (e : ∀ k o, ps K ns (m + 1) nt k o = sqR (ps K ns m q k o) (fun j => ps K ns m u j o)) : mA K ns H N (m + 1) nt rr pl FO := by
  intro k o kd ph bg pr bs r os cs hP hc hph hbg h9
  rw [e] at h9 ⊢
  obtain ⟨n1, n2⟩ := sqR_9 h9
  refine OUT_seq (h1 k o kd ph bg pr bs r os cs (PRm_m hP hrr hpl) hc hph hbg n1) (fun a ph1 x p hx hr hl hp => ?_)
  have hv := ps_adv (ns := ns) hC.1 m q k o hP.2.2.2.1 a
  rw [hq] at hv
  have hln := ln_x hx
  rw [hp.1]
  exact h2 k _ o kd ph pr bs r os p (cs ++ x) (PRm_k hP (by omega) hv.2.1) (fun i hi => by have := hr i hi; omega) (by omega) (by simp only [List.length_append]; omega) hph hp.2 (n2 a)
theorem mT_two {K : TKs} {ns : List (List Int)} {H : Int → Int} {N rr1 pl1 rr pl : Int} {m nt q u : Nat} {BG : Int → Prop} {FI FO : Int → Int → Prop} (hC : mCX K H N) (hq : lpN q = 1) (hrr : rr ≤ rr1) (hpl : pl1 ≤ pl) (h1 : mT K ns H N m q rr1 pl1 BG FI) (h2 : mV K ns H N m u rr pl FI FO) (e : ∀ k o, ps K ns (m + 1) nt k o = sqR (ps K ns m q k o) (fun j => ps K ns m u j o)) : mT K ns H N (m + 1) nt rr pl BG FO := by
  intro k o kd pr bs r os cs hkd hP hc hbg h9
  rw [e] at h9 ⊢
  obtain ⟨n1, n2⟩ := sqR_9 h9
  refine OUT_seq (h1 k o kd pr bs r os cs hkd (PRm_m hP hrr hpl) hc hbg n1) (fun a ph1 x p hx hr hl hp => ?_)
  have hv := ps_adv (ns := ns) hC.1 m q k o hP.2.2.2.1 a
  rw [hq] at hv
  have hln := ln_x hx
  exact h2 k _ o kd ph1 pr bs r os p (cs ++ x) hkd (PRm_k hP (by omega) hv.2.1) (fun i hi => by have := hr i hi; omega) (by omega) (by simp only [List.length_append]; omega) hp (n2 a)
/-- a sign of reckoning, and what is behind it -/
theorem mL_go {K : TKs} {ns : List (List Int)} {H : Int → Int} {N rr rr1 pl1 pl op : Int} {m q u : Nat} {FI FO : Int → Prop} (hC : mCX K H N) (hq : lpN q = 1) (h1 : mA K ns H N m q rr1 pl1 FI) (h2 : mL K ns H N m u rr pl FI FO) (hrr : rr < rr1) (hpl : pl1 + 1 ≤ pl) (hop : rkO op = rr)
    {kb k o kd ph pr bs : Int} {r : List FR} {os p : List Int} {cs : CDs} (hP : PRm K N rr pl kb k o bs r os) (hr : ∀ q, q ∈ p → rr ≤ rkO q) (hl : (p.length : Int) ≤ nk K k - nk K kb + pl) (hc : (cs.length : Int) + (p.length : Int) + (os.length : Int) + o ≤ k) (hph : ph < 2)
    (hk : K.1 k = 43 ∨ K.1 k = 45 ∨ K.1 k = 42 ∨ K.1 k = 47 ∨ K.1 k = 37) (hle : (if K.1 k = 43 ∨ K.1 k = 45 then (5 : Int) else 6) = rr) (har : arO (K.1 k) = op) (h9 : (sqR (sqR (ps K ns m q (k + 1) o) (fun j => okR j [(op, 0)])) (fun j => ps K ns m u j o)).1 ≠ 9) :
    OUT K ns H N rr pl kb k (k, 1, (kd, ph, 0, pr, bs) :: r, p ++ os, cs) kd (pr, bs) r os cs (p.map zO) (fun q j => q = ph ∧ FO j) (sqR (sqR (ps K ns m q (k + 1) o) (fun j => okR j [(op, 0)])) (fun j => ps K ns m u j o)) := by
  obtain ⟨n1, n2⟩ := sqR_9 h9
  obtain ⟨n3, -⟩ := sqR_9 n1
  have hkN : k < N := lt_of_t hC.1 hP.2.2.2.1 (by omega) (by omega)
  have hst : stp K ns H (k, 1, (kd, ph, 0, pr, bs) :: r, p ++ os, cs) = some (Sum.inl (k + 1, 0, (kd, ph, 0, pr, bs) :: r, op :: os, cs ++ p.map zO)) := by
    rw [st_G (gd_l hC hP hl hc) (fun z => by have := hC.2.1 k z; omega)]
    unfold stG
    rw [if_pos ⟨hph, hk⟩, hle, har, jnO_all hP.2.2.2.2.2.1 hP.2.2.2.2.1 p cs hr]
  have hP2 : PRm K N rr1 pl1 (k + 1) (k + 1) o bs r (op :: os) := PRm_o hP (by omega) hpl hkN
  have hA := h1 (k + 1) o kd ph 0 pr bs r (op :: os) (cs ++ p.map zO) hP2 (by simp only [List.length_append, List.length_map, List.length_cons]; omega) hph (fun _ z => absurd z (by decide)) n3
  have hkb := nk_m (K := K) (show kb ≤ k + 1 by have := hP.2.2.1.2; omega)
  refine OUT_seq (OUT_op (rr := rr) (pl := pl) (kb := kb) (fun f => mR_l hst f) hA (by omega) (by omega) hpl hkb) (fun a ph1 x p1 hx hr1 hl1 hp => ?_)
  have a0 : (ps K ns m q (k + 1) o).1 = 0 := (sqR_i a).1
  have hv := ps_adv (ns := ns) hC.1 m q (k + 1) o (by omega) a0
  rw [hq] at hv
  rw [sqR_ok a0] at n2 hx hl1 hp ⊢
  have hx' : x ++ p1.map zO = p.map zO ++ ((ps K ns m q (k + 1) o).2.2.1 ++ [(op, 0)]) := hx
  have hln := ln_y hx'
  simp only [List.length_append, List.length_cons, List.length_nil] at hln
  have hp1 : ph1 = ph := hp.1
  have hp2 : FI (ps K ns m q (k + 1) o).2.1 := hp.2
  subst hp1
  exact h2 kb (ps K ns m q (k + 1) o).2.1 o kd ph1 pr bs r os p1 (cs ++ x) (PRm_k hP (by omega) hv.2.1) hr1 hl1 (by simp only [List.length_append]; omega) hph hp2 (n2 rfl)
/-- a word between tests, and what is behind it -/
theorem mV_go {K : TKs} {ns : List (List Int)} {H : Int → Int} {N rr rr1 pl1 pl op : Int} {m q u : Nat} {FI FO : Int → Int → Prop} (hC : mCX K H N) (hq : lpN q = 1) (h1 : mT K ns H N m q rr1 pl1 (fun _ => True) FI) (h2 : mV K ns H N m u rr pl FI FO) (hrr : rr < rr1) (hpl : pl1 + 1 ≤ pl) (hop : rkO op = rr)
    {kb k o kd ph pr bs : Int} {r : List FR} {os p : List Int} {cs : CDs} (hkd : kd = 1 ∨ kd = 5) (hP : PRm K N rr pl kb k o bs r os) (hr : ∀ q, q ∈ p → rr ≤ rkO q) (hl : (p.length : Int) ≤ nk K k - nk K kb + pl) (hc : (cs.length : Int) + (p.length : Int) + (os.length : Int) + o ≤ k) (hph : ph ≠ 0)
    (hk : K.1 k = 272 ∨ K.1 k = 271) (hle : (if K.1 k = 272 then (2 : Int) else 1) = rr) (har : (if K.1 k = 272 then (20 : Int) else 21) = op) (h9 : (sqR (sqR (ps K ns m q (k + 1) o) (fun j => okR j [(op, 0)])) (fun j => ps K ns m u j o)).1 ≠ 9) :
    OUT K ns H N rr pl kb k (k, 1, (kd, ph, 0, pr, bs) :: r, p ++ os, cs) kd (pr, bs) r os cs (p.map zO) FO (sqR (sqR (ps K ns m q (k + 1) o) (fun j => okR j [(op, 0)])) (fun j => ps K ns m u j o)) := by
  obtain ⟨n1, n2⟩ := sqR_9 h9
  obtain ⟨n3, -⟩ := sqR_9 n1
  have hkN : k < N := lt_of_t hC.1 hP.2.2.2.1 (by omega) (by omega)
  have hst : stp K ns H (k, 1, (kd, ph, 0, pr, bs) :: r, p ++ os, cs) = some (Sum.inl (k + 1, 0, (kd, 0, 1, pr, bs) :: r, op :: os, cs ++ p.map zO)) := by
    rw [st_G (gd_l hC hP hl hc) (fun z => by have := hC.2.1 k z; omega)]
    unfold stG
    rw [if_neg (fun z => by omega), if_neg (fun z => by omega), if_pos ⟨hkd, hk⟩, if_neg hph, hle, har, jnO_all hP.2.2.2.2.2.1 hP.2.2.2.2.1 p cs hr]
  have hP2 : PRm K N rr1 pl1 (k + 1) (k + 1) o bs r (op :: os) := PRm_o hP (by omega) hpl hkN
  have hA := h1 (k + 1) o kd pr bs r (op :: os) (cs ++ p.map zO) hkd hP2 (by simp only [List.length_append, List.length_map, List.length_cons]; omega) trivial n3
  have hkb := nk_m (K := K) (show kb ≤ k + 1 by have := hP.2.2.1.2; omega)
  refine OUT_seq (OUT_op (rr := rr) (pl := pl) (kb := kb) (fun f => mR_l hst f) hA (by omega) (by omega) hpl hkb) (fun a ph1 x p1 hx hr1 hl1 hp => ?_)
  have a0 : (ps K ns m q (k + 1) o).1 = 0 := (sqR_i a).1
  have hv := ps_adv (ns := ns) hC.1 m q (k + 1) o (by omega) a0
  rw [hq] at hv
  rw [sqR_ok a0] at n2 hx hl1 hp ⊢
  have hx' : x ++ p1.map zO = p.map zO ++ ((ps K ns m q (k + 1) o).2.2.1 ++ [(op, 0)]) := hx
  have hln := ln_y hx'
  simp only [List.length_append, List.length_cons, List.length_nil] at hln
  exact h2 kb (ps K ns m q (k + 1) o).2.1 o kd ph1 pr bs r os p1 (cs ++ x) hkd (PRm_k hP (by omega) hv.2.1) hr1 hl1 (by simp only [List.length_append]; omega) hp (n2 rfl)
