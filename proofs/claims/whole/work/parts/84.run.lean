/-! both sides run words -/
def cOK (ns : List (List Int)) (c : Int × Int) : Prop := (c.1 = 0 ∧ 0 ≤ c.2 ∧ c.2 ≤ 9999) ∨ (1 ≤ c.1 ∧ c.1 ≤ 3) ∨ (4 ≤ c.1 ∧ c.1 < 4 + ns.length) ∨ (9 ≤ c.1 ∧ c.1 ≤ 22)
def alC (ns : List (List Int)) (r : R3) : Prop := (∀ c, c ∈ r.2.2.1 → cOK ns c) ∧ (∀ c, c ∈ r.2.2.2 → cOK ns c)
theorem alC_sq {ns : List (List Int)} {a : R3} {f : Int → R3} (h : alC ns a) (h2 : alC ns (f a.2.1)) : alC ns (sqR a f) := by
  unfold sqR
  by_cases c : a.1 = 0
  · rw [if_pos c]
    by_cases d : (f a.2.1).1 = 0
    · rw [if_pos d]
      refine ⟨fun x hx => ?_, fun x hx => ?_⟩
      · rcases List.mem_append.mp hx with z | z
        · exact h.1 x z
        · exact h2.1 x z
      · rcases List.mem_append.mp hx with z | z
        · exact h.2 x z
        · exact h2.2 x z
    · rw [if_neg d]; exact h2
  · rw [if_neg c]; exact h
theorem alC_ok1 {ns : List (List Int)} {k : Int} {c : Int × Int} (h : cOK ns c) : alC ns (okR k [c]) := by
  have : ∀ x, x ∈ [c] → cOK ns x := fun x hx => by
    rw [List.mem_singleton] at hx
    rw [hx]; exact h
  exact ⟨this, this⟩
theorem alC_ok0 {ns : List (List Int)} {k : Int} : alC ns (okR k []) := ⟨fun x hx => (by cases hx), fun x hx => (by cases hx)⟩
theorem alC_fl {ns : List (List Int)} {K : TKs} {kd k : Int} : alC ns (flR K kd k) := ⟨fun x hx => (by cases hx), fun x hx => (by cases hx)⟩
theorem cOK_o (ns : List (List Int)) {s : Int} (h : 9 ≤ s ∧ s ≤ 22) : cOK ns (s, 0) := Or.inr (Or.inr (Or.inr h))
theorem ps_cd {K : TKs} {ns : List (List Int)} (hnu : ∀ k, K.1 k = 3 → 0 ≤ K.2.2.2 k ∧ K.2.2.2 k ≤ 9999) : ∀ (m nt : Nat) (k o : Int), alC ns (ps K ns m nt k o) := by
  intro m
  induction m with
  | zero => intro nt k o; exact ⟨fun x hx => (by cases hx), fun x hx => (by cases hx)⟩
  | succ m ih =>
    intro nt k o
    have ite : ∀ (P : Prop) [Decidable P] (A B : R3), alC ns A → alC ns B → alC ns (if P then A else B) := fun P _ A B ha hb => by
      by_cases z : P
      · rw [if_pos z]; exact ha
      · rw [if_neg z]; exact hb
    have go : ∀ (q u : Nat) (j : Int) (s : Int), (9 ≤ s ∧ s ≤ 22) → alC ns (sqR (sqR (ps K ns m q j o) (fun j => okR j [(s, 0)])) (fun j => ps K ns m u j o)) := fun q u j s hs => alC_sq (alC_sq (ih _ _ _) (alC_ok1 (cOK_o ns hs))) (ih _ _ _)
    have cmp : ∀ (j : Int) (s : Int), (9 ≤ s ∧ s ≤ 22) → alC ns (sqR (ps K ns m 6 j o) (fun j => okR j [(s, 0)])) := fun j s hs => alC_sq (ih _ _ _) (alC_ok1 (cOK_o ns hs))
    have hnot : alC ns (ntR (ntC K.1 2000 k) (ps K ns m 11 (k + ntC K.1 2000 k) o)) := by
      have h := ih 11 (k + ntC K.1 2000 k) o
      unfold ntR
      by_cases z : (ps K ns m 11 (k + ntC K.1 2000 k) o).1 = 0
      · rw [if_pos z]
        refine ⟨fun x hx => ?_, fun x hx => ?_⟩
        · rcases List.mem_append.mp hx with y | y
          · exact h.1 x y
          · rw [(List.mem_replicate.mp y).2]; exact cOK_o ns (by decide)
        · rcases List.mem_append.mp hx with y | y
          · exact h.2 x y
          · by_cases q : ntC K.1 2000 k % 2 = 1
            · rw [if_pos q, List.mem_singleton] at y
              rw [y]; exact cOK_o ns (by decide)
            · rw [if_neg q] at y; cases y
      · rw [if_neg z]; exact h
    have hpix : alC ns (if pixF (K.2.2.1 k) ns 0 = -1 then flR K 3 k else okR (k + 1) [(4 + pixF (K.2.2.1 k) ns 0, 0)]) := by
      by_cases d : pixF (K.2.2.1 k) ns 0 = -1
      · rw [if_pos d]; exact alC_fl
      · rw [if_neg d]
        have hp := pixF_r (K.2.2.1 k) ns 0
        exact alC_ok1 (Or.inr (Or.inr (Or.inl ⟨by show 4 ≤ 4 + pixF (K.2.2.1 k) ns 0; omega, by show 4 + pixF (K.2.2.1 k) ns 0 < 4 + ns.length; omega⟩)))
    have hnum : ∀ B : R3, alC ns B → alC ns (if K.1 k = 3 then okR (k + 1) [(0, K.2.2.2 k)] else B) := fun B hB => by
      by_cases c1 : K.1 k = 3
      · rw [if_pos c1]; exact alC_ok1 (Or.inl ⟨rfl, hnu k c1⟩)
      · rw [if_neg c1]; exact hB
    have hone : ∀ s : Int, (1 ≤ s ∧ s ≤ 3) → alC ns (okR (k + 1) [(s, 0)]) := fun s hs => alC_ok1 (Or.inr (Or.inl hs))
    have hpr : alC ns (if K.1 k = 40 then (if o = 8 then flR K 5 k else sqR (ps K ns m 6 (k + 1) (o + 1)) (fun k => if K.1 k = 44 then sqR (ps K ns m 6 (k + 1) (o + 1)) (fun k => if K.1 k = 41 then okR (k + 1) [(if nt = 12 then 15 else 16, 0)] else flR K 1 k) else flR K 1 k)) else flR K 1 k) := by
      refine ite _ _ _ (ite _ _ _ alC_fl (alC_sq (ih 6 _ _) (ite _ _ _ (alC_sq (ih 6 _ _) (ite _ _ _ (alC_ok1 ?_) alC_fl)) alC_fl))) alC_fl
      by_cases z : nt = 12
      · rw [if_pos z]; exact cOK_o ns (by decide)
      · rw [if_neg z]; exact cOK_o ns (by decide)
    rw [ps]
    refine ite _ _ _ (alC_sq (ih 2 k o) (ih 1 _ o)) ?_
    refine ite _ _ _ (ite _ _ _ (go 2 1 _ 21 (by decide)) alC_ok0) ?_
    refine ite _ _ _ (alC_sq (ih 4 k o) (ih 3 _ o)) ?_
    refine ite _ _ _ (ite _ _ _ (go 4 3 _ 20 (by decide)) alC_ok0) ?_
    refine ite _ _ _ hnot ?_
    refine ite _ _ _ (alC_sq (ih 6 k o) (ite _ _ _ (cmp _ 17 (by decide)) (ite _ _ _ (cmp _ 18 (by decide)) (ite _ _ _ (cmp _ 19 (by decide)) alC_fl)))) ?_
    refine ite _ _ _ (alC_sq (ih 8 k o) (ih 7 _ o)) ?_
    refine ite _ _ _ (ite _ _ _ (go 8 7 _ 10 (by decide)) (ite _ _ _ (go 8 7 _ 11 (by decide)) alC_ok0)) ?_
    refine ite _ _ _ (alC_sq (ih 10 k o) (ih 9 _ o)) ?_
    refine ite _ _ _ (ite _ _ _ (go 10 9 _ 12 (by decide)) (ite _ _ _ (go 10 9 _ 13 (by decide)) (ite _ _ _ (go 10 9 _ 14 (by decide)) alC_ok0))) ?_
    refine ite _ _ _ (ite _ _ _ (ite _ _ _ alC_fl (alC_sq (ih 6 _ _) (ite _ _ _ alC_ok0 alC_fl))) (hnum _ (ite _ _ _ (hone 1 (by decide)) (ite _ _ _ (hone 2 (by decide)) (ite _ _ _ (hone 3 (by decide)) (ite _ _ _ (ih 12 _ o) (ite _ _ _ (ih 13 _ o) (ite _ _ _ hpix alC_fl)))))))) ?_
    exact ite _ _ _ (ite _ _ _ (ite _ _ _ alC_fl (alC_sq (ih 0 _ _) (ite _ _ _ alC_ok0 alC_fl))) (ite _ _ _ (alC_ok1 (cOK_o ns (by decide))) (ih 5 k o))) hpr
theorem eK_all {T : Int → Int} {n : Int} (hn : 0 ≤ n) : ∀ k : Nat, 0 ≤ eK T n k ∧ eK T n k ≤ n := by
  intro k
  induction k with
  | zero => exact ⟨Int.le_refl _, hn⟩
  | succ k ih =>
    have ha := pA_r (T := T) ih.1 ih.2
    rw [eK]
    unfold tkE
    generalize pA T n (eK T n k) = a at *
    by_cases c : n ≤ a
    · rw [if_pos c]; omega
    rw [if_neg c]
    by_cases cl : ltr (T a)
    · rw [if_pos cl]
      have := wE_n (n := n) (show 0 ≤ a by omega) (by omega) cl
      omega
    rw [if_neg cl]
    by_cases cd : dgt (T a)
    · rw [if_pos cd]
      have := dE_n (n := n) (show 0 ≤ a by omega) (by omega) cd
      omega
    · rw [if_neg cd]; omega
theorem kV_b {T : Int → Int} {n : Int} (hn : 0 ≤ n) (k : Int) (h : kT T n k = 3) : 0 ≤ kV T n k ∧ kV T n k ≤ 9999 := by
  have he := eK_all (T := T) hn k.toNat
  have ha := pA_r (T := T) he.1 he.2
  have h8 := tk_c8 T n (eK T n k.toNat)
  unfold kT at h
  unfold kV tkV
  rcases h8 with ⟨c, h1, -⟩ | ⟨c, hor, j, h1, -⟩ | ⟨c, cl, j, y, h1, -⟩ | ⟨c, cl, j, y, h1, h2, h3, hc⟩ | ⟨c, cl, cd, j, y, h1, -⟩ | ⟨c, cl, cd, j, y, h1, -⟩ | ⟨c, cl, cd, q, -⟩
  · omega
  · omega
  · omega
  · have := ownT_r (sbl T (wE T n (pA T n (eK T n k.toNat)) - pA T n (eK T n k.toNat)).toNat (pA T n (eK T n k.toNat)))
    omega
  · omega
  · exact (dE_n (by omega) c cd).2.2 (by omega)
  · rcases q with ⟨q, q2⟩ | ⟨q, q2⟩
    · unfold sgn at q; omega
    · omega
-- ---- stacks in rows
def stkR (f : Int → Int) : List Int → Prop
  | [] => True
  | x :: r => f (r.length) = x ∧ stkR f r
theorem stkR_k {f f' : Int → Int} : ∀ (st : List Int), (∀ i, 0 ≤ i → i < st.length → f' i = f i) → stkR f st → stkR f' st := by
  intro st
  induction st with
  | nil => intro _ _; exact trivial
  | cons x r ih =>
    intro h g
    refine ⟨?_, ih (fun i i0 i1 => h i i0 (by simp only [List.length_cons]; omega)) g.2⟩
    rw [h _ (by omega) (by simp only [List.length_cons]; omega)]; exact g.1
theorem stkR_p {f : Int → Int} {st : List Int} {x : Int} (h : stkR f st) : stkR (upI f st.length x) (x :: st) := ⟨upI_s _ _ _, stkR_k st (fun i _ i1 => upI_n _ _ (by omega)) h⟩
theorem getD_c {c : Int × Int} {w : CDs} {i : Nat} : (c :: w).getD (i + 1) (0, 0) = w.getD i (0, 0) := rfl
/-- running of a single word, in cases -/
theorem runW_c {lim : Int} {ev : Int → Int} {c : Int × Int} {w : CDs} {st st' : List Int} (h : runW lim ev (c :: w) st = some st') :
    (c.1 ≤ 9 ∧ (st.length : Int) < lim ∧ runW lim ev w ((if c.1 = 0 then c.2 else if c.1 = 9 then 1 else ev c.1) :: st) = some st') ∨ (c.1 = 22 ∧ ∃ x r, st = x :: r ∧ bl1 x ∧ runW lim ev w ((1 - x) :: r) = some st') ∨ (9 < c.1 ∧ c.1 ≠ 22 ∧ ∃ a b r, st = b :: a :: r ∧ ((c.1 = 20 ∨ c.1 = 21) → bl1 a ∧ bl1 b) ∧ runW lim ev w (opv c.1 a b :: r) = some st') := by
  have h' : (stW lim ev c st).bind (runW lim ev w) = some st' := h
  unfold stW at h'
  by_cases c1 : c.1 ≤ 9
  · rw [if_pos c1] at h'
    by_cases c2 : (st.length : Int) < lim
    · rw [if_pos c2] at h'
      exact Or.inl ⟨c1, c2, h'⟩
    · rw [if_neg c2] at h'; cases h'
  rw [if_neg c1] at h'
  by_cases c2 : c.1 = 22
  · rw [if_pos c2] at h'
    rcases st with _ | ⟨x, r⟩
    · cases h'
    · have h2 : (if bl1 x then some ((1 - x) :: r) else none).bind (runW lim ev w) = some st' := h'
      by_cases c3 : bl1 x
      · rw [if_pos c3] at h2
        exact Or.inr (Or.inl ⟨c2, x, r, rfl, c3, h2⟩)
      · rw [if_neg c3] at h2; cases h2
  · rw [if_neg c2] at h'
    rcases st with _ | ⟨b, _ | ⟨a, r⟩⟩
    · cases h'
    · cases h'
    · have h2 : (if ((c.1 = 20 ∨ c.1 = 21) ∧ ¬ (bl1 a ∧ bl1 b)) then none else some (opv c.1 a b :: r)).bind (runW lim ev w) = some st' := h'
      by_cases c3 : (c.1 = 20 ∨ c.1 = 21) ∧ ¬ (bl1 a ∧ bl1 b)
      · rw [if_pos c3] at h2; cases h2
      · rw [if_neg c3] at h2
        exact Or.inr (Or.inr ⟨by omega, c2, a, b, r, rfl, fun z => Classical.byContradiction (fun y => c3 ⟨z, y⟩), h2⟩)
theorem opv_big {s a b : Int} (hs : 10 ≤ s ∧ s ≤ 21) (ha : bigI a) (hb : bigI b) (h2 : (s = 20 ∨ s = 21) → bl1 a ∧ bl1 b) : bigI (opv s a b) := by
  by_cases c : s ≤ 16
  · exact opv_n ⟨hs.1, c⟩ ha hb
  by_cases d : s ≤ 19
  · have := opv_c (s := s) (a := a) (b := b) ⟨by omega, d⟩
    omega
  · have hs2 : s = 20 ∨ s = 21 := by omega
    have := opv_b hs2 (h2 hs2).1 (h2 hs2).2
    omega
theorem push_big {ns : List (List Int)} {ev : Int → Int} {c : Int × Int} (hns : ns.length ≤ 2) (hc : cOK ns c) (h9 : c.1 ≤ 9) (hev : ∀ s : Int, 1 ≤ s → s ≤ 3 + (ns.length : Int) → bigI (ev s)) : bigI (if c.1 = 0 then c.2 else if c.1 = 9 then 1 else ev c.1) := by
  by_cases z : c.1 = 0
  · rw [if_pos z]
    unfold cOK at hc
    omega
  rw [if_neg z]
  by_cases y : c.1 = 9
  · rw [if_pos y]; decide
  · rw [if_neg y]
    unfold cOK at hc
    exact hev c.1 (by omega) (by omega)
-- ---- the class
theorem C_run {g r E : Int} {ns : List (List Int)} {ev : Int → Int} {x2 x3 x4 x5 x6 : Int} {Q : Int → ASt → Prop} {V : ASt} (hg : isGm g) (hr : 0 ≤ r ∧ r < 12) (hE : E ≤ 1800) (hns : ns.length ≤ 2) (hev : ∀ s : Int, 1 ≤ s → s ≤ 3 + (ns.length : Int) → bigI (ev s)) (he : ev 1 = x2 ∧ ev 2 = x3 ∧ ev 3 = x4 ∧ ev 4 = x5 ∧ ev 5 = x6) (hen : V (g + 3) (r + 1) = E) :
    ∀ (w : CDs) (st st' : List Int) (p : Int) (W : ASt) (f : Nat), runW 64 ev w st = some st' → (∀ c, c ∈ w → cOK ns c) → (∀ x, x ∈ st → bigI x) → (∀ a, a ≠ g + 4 → W a = V a) → stkR (W (g + 4)) st → (∀ i : Nat, i < w.length → V (g + 2) (p + i) = cmw (w.getD i (0, 0))) → 0 ≤ p → p + w.length ≤ E → st.length ≤ 64 →
      (∀ W' : ASt, (∀ a, a ≠ g + 4 → W' a = V a) → stkR (W' (g + 4)) st' → Tr (b_Tests_evaluate_L25 S0 (g + 1) r x2 x3 x4 x5 x6 f W' st'.length (p + w.length)) Q) →
      Tr (b_Tests_evaluate_L25 S0 (g + 1) r x2 x3 x4 x5 x6 (f + w.length) W st.length p) Q := by
  have hgr := gm_r hg
  have f0 : aF S0 (g + 1) 0 = g + 2 := by
    rcases hgr with e | e <;> subst e
    · exact F_4_0
    · exact F_20_0
  have f1 : aF S0 (g + 1) 1 = g + 3 := by
    rcases hgr with e | e <;> subst e
    · exact F_4_1
    · exact F_20_1
  have f4 : aF S0 (g + 1) 4 = g + 4 := by
    rcases hgr with e | e <;> subst e
    · exact F_4_4
    · exact F_20_4
  intro w
  induction w with
  | nil =>
    intro st st' p W f hrun _ _ fW hs _ _ _ _ hQ
    have : st = st' := Option.some.inj hrun
    subst this
    have := hQ W fW hs
    rw [List.length_nil, show p + ((0 : Nat) : Int) = p by omega] at this
    exact this
  | cons c w ih =>
    intro st st' p W f hrun hok hbig fW hs hcd p0 pE hst hQ
    have hc := hok c (List.mem_cons_self ..)
    have hcode : V (g + 2) p = cmw c := by
      have := hcd 0 (by simp)
      rw [show p + ((0 : Nat) : Int) = p by omega] at this
      exact this
    have hlen : ((c :: w).length : Int) = w.length + 1 := by simp
    have next : ∀ (s2 : List Int) (W2 : ASt), runW 64 ev w s2 = some st' → (∀ x, x ∈ s2 → bigI x) → (∀ a, a ≠ g + 4 → W2 a = V a) → stkR (W2 (g + 4)) s2 → s2.length ≤ 64 → Tr (b_Tests_evaluate_L25 S0 (g + 1) r x2 x3 x4 x5 x6 (f + w.length) W2 s2.length (p + 1)) Q := by
      intro s2 W2 h1 h2 h3 h4 h5
      refine ih s2 st' (p + 1) W2 f h1 (fun c hc => hok c (List.mem_cons_of_mem _ hc)) h2 h3 h4 (fun i hi => ?_) (by omega) (by omega) h5 (fun W' h6 h7 => ?_)
      · have := hcd (i + 1) (by simp only [List.length_cons]; omega)
        rw [getD_c, show p + ((i + 1 : Nat) : Int) = p + 1 + (i : Int) by omega] at this
        exact this
      · have := hQ W' h6 h7
        rw [hlen, show p + ((w.length : Int) + 1) = p + 1 + (w.length : Int) by omega] at this
        exact this
    rw [List.length_cons, show f + (w.length + 1) = (f + w.length) + 1 by omega, b_Tests_evaluate_L25, w32_id (x := r + 1) (by omega) (by omega), f1, AG3 hg, gd_in (by omega) (by omega), fW (g + 3) (by omega), hen]
    refine Tr_f (by omega) ?_
    rw [f0, AG2 hg, gd_in (by omega) (by omega), fW (g + 2) (by omega), hcode]
    rcases runW_c hrun with ⟨c1, c2, c3⟩ | ⟨c1, x, s1, c2, c3, c4⟩ | ⟨c1, c2, a, b, s1, c3, c4, c5⟩
    · -- a value
      have hpb := push_big hns hc c1 hev
      have fin : ∀ v, v = (if c.1 = 0 then c.2 else if c.1 = 9 then 1 else ev c.1) → Tr (b_Tests_evaluate_J130 S0 (b_Tests_evaluate_L25 S0 (g + 1) r x2 x3 x4 x5 x6 (f + w.length)) W (g + 1) r x2 x3 x4 x5 x6 st.length p (aF S0 (g + 1) 4) st.length v) Q := by
        intro v hv
        unfold b_Tests_evaluate_J130
        rw [f4, AG4 hg, gd_in (by omega) (by omega), w32_id (x := (st.length : Int) + 1) (by omega) (by omega), w32_id (x := p + 1) (by omega) (by omega)]
        refine Tr_set (fun W2 e2 n2 => ?_)
        have := next (v :: st) W2 (by rw [hv]; exact c3) (fun y hy => by
          rcases List.mem_cons.mp hy with z | z
          · rw [z, hv]; exact hpb
          · exact hbig y z) (fun a ha => by rw [n2 a ha, fW a ha]) (by rw [e2]; exact stkR_p hs) (by simp only [List.length_cons]; omega)
        rw [List.length_cons, show ((st.length + 1 : Nat) : Int) = (st.length : Int) + 1 by omega] at this
        exact this
      have h59 : Tr (b_Tests_evaluate_J59 S0 (b_Tests_evaluate_L25 S0 (g + 1) r x2 x3 x4 x5 x6 (f + w.length)) W (g + 1) r x2 x3 x4 x5 x6 st.length p (cmw c)) Q := by
        unfold b_Tests_evaluate_J59
        refine Tr_f (by omega) ?_
        unfold cOK at hc
        unfold cmw
        by_cases z0 : c.1 = 0
        · rw [if_pos z0]
          exact Tr_f (by omega) (fin c.2 (by rw [if_pos z0]))
        rw [if_neg z0] at fin ⊢
        by_cases z9 : c.1 = 9
        · rw [if_pos z9]
          exact Tr_f (by decide) (fin 1 (by rw [if_pos z9]))
        rw [if_neg z9] at fin ⊢
        rw [if_pos (show c.1 ≤ 5 by omega)]
        refine Tr_t (by omega) ?_
        refine Tr_if (fun y => fin x2 (by rw [show c.1 = 1 by omega]; exact he.1.symm)) (fun y => ?_)
        refine Tr_if (fun y2 => fin x3 (by rw [show c.1 = 2 by omega]; exact he.2.1.symm)) (fun y2 => ?_)
        refine Tr_if (fun y3 => fin x4 (by rw [show c.1 = 3 by omega]; exact he.2.2.1.symm)) (fun y3 => ?_)
        exact Tr_if (fun y4 => fin x5 (by rw [show c.1 = 4 by omega]; exact he.2.2.2.1.symm)) (fun y4 => fin x6 (by rw [show c.1 = 5 by omega]; exact he.2.2.2.2.symm))
      refine Tr_if (fun _ => h59) (fun z => Tr_f ?_ h59)
      unfold cOK at hc
      unfold cmw at z ⊢
      by_cases z0 : c.1 = 0
      · rw [if_pos z0] at z; omega
      rw [if_neg z0] at z ⊢
      by_cases z9 : c.1 = 9
      · rw [if_pos z9] at z; omega
      rw [if_neg z9, if_pos (show c.1 ≤ 5 by omega)]
      omega
    · -- NOT
      subst c2
      have hx : W (g + 4) (s1.length : Int) = x := hs.1
      have hcm : cmw c = -14 := by
        unfold cmw
        rw [c1, if_neg (by decide), if_neg (by decide), if_neg (by decide)]
        decide
      rw [hcm]
      refine Tr_f (by decide) (Tr_t (by decide) (Tr_t rfl ?_))
      have hl1 : (((x :: s1).length : Nat) : Int) = (s1.length : Int) + 1 := by simp
      have hst' : s1.length < 64 := by simp only [List.length_cons] at hst; omega
      rw [hl1]
      refine Tr_f (by omega) ?_
      rw [w32_id (x := (s1.length : Int) + 1 - 1) (by omega) (by omega), show (s1.length : Int) + 1 - 1 = s1.length by omega, f4, AG4 hg, gd_in (by omega) (by omega), hx, w32_id (x := 1 - x) (by omega) (by omega), w32_id (x := p + 1) (by omega) (by omega)]
      refine Tr_set (fun W2 e2 n2 => ?_)
      have := next ((1 - x) :: s1) W2 c4 (fun y hy => by
        rcases List.mem_cons.mp hy with z | z
        · rw [z]; exact ⟨by omega, by omega⟩
        · exact hbig y (List.mem_cons_of_mem _ z)) (fun a ha => by rw [n2 a ha, fW a ha]) (by rw [e2]; exact stkR_p hs.2) (by simp only [List.length_cons]; omega)
      rw [List.length_cons, show ((s1.length + 1 : Nat) : Int) = (s1.length : Int) + 1 by omega] at this
      exact this
    · -- two numbers
      subst c3
      have hcs : 10 ≤ c.1 ∧ c.1 ≤ 21 := by unfold cOK at hc; omega
      have hb : W (g + 4) ((a :: s1).length : Int) = b := hs.1
      have ha : W (g + 4) (s1.length : Int) = a := hs.2.1
      have hl1 : (((b :: a :: s1).length : Nat) : Int) = (s1.length : Int) + 2 := by simp only [List.length_cons]; omega
      have hl2 : (((a :: s1).length : Nat) : Int) = (s1.length : Int) + 1 := by simp
      rw [hl2] at hb
      have hst' : s1.length + 2 ≤ 64 := by simp only [List.length_cons] at hst; omega
      have ba := hbig a (List.mem_cons_of_mem _ (List.mem_cons_self ..))
      have bb := hbig b (List.mem_cons_self ..)
      have hcm : cmw c = 8 - c.1 := by
        unfold cmw
        rw [if_neg (by omega), if_neg (by omega), if_neg (by omega)]
      rw [hcm]
      refine Tr_f (by omega) (Tr_t (by omega) (Tr_f (by omega) ?_))
      unfold b_Tests_evaluate_J173
      rw [hl1]
      refine Tr_f (by omega) ?_
      rw [w32_id (x := (s1.length : Int) + 2 + -1) (by omega) (by omega), w32_id (x := (s1.length : Int) + 2 + -1 - 1) (by omega) (by omega), show (s1.length : Int) + 2 + -1 - 1 = s1.length by omega, show (s1.length : Int) + 2 + -1 = (s1.length : Int) + 1 by omega, f4, AG4 hg, gd_in (by omega) (by omega), AG4 hg, gd_in (by omega) (by omega), ha, hb]
      refine Tr_bq (C_combine W hcs ba bb c4) ?_
      rw [w32_id (x := p + 1) (by omega) (by omega)]
      refine Tr_set (fun W2 e2 n2 => ?_)
      have := next (opv c.1 a b :: s1) W2 c5 (fun y hy => by
        rcases List.mem_cons.mp hy with z | z
        · rw [z]; exact opv_big hcs ba bb c4
        · exact hbig y (List.mem_cons_of_mem _ (List.mem_cons_of_mem _ z))) (fun a ha => by rw [n2 a ha, fW a ha]) (by rw [e2]; exact stkR_p hs.2.2) (by simp only [List.length_cons]; omega)
      rw [List.length_cons, show ((s1.length + 1 : Nat) : Int) = (s1.length : Int) + 1 by omega] at this
      exact this
