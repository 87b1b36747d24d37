/-! the reference runs words; what a test says -/
theorem M_run {b to : Int} {ns : List (List Int)} {ev : Int → Int} {Q : Int → ASt → Prop} {V : ASt} (hb : b = 0 ∨ b = 1) (h12 : V 142 12 = b) (hto : 0 ≤ to ∧ to ≤ 1800) (hns : ns.length ≤ 2) (hev : ∀ s : Int, 1 ≤ s → s ≤ 3 + (ns.length : Int) → bigI (ev s) ∧ V 168 s = ev s) :
    ∀ (w : CDs) (st st' : List Int) (p : Int) (W : ASt) (f : Nat), runW 1850 ev w st = some st' → (∀ c, c ∈ w → cOK ns c) → (∀ x, x ∈ st → bigI x) → (∀ a, a ≠ 167 → W a = V a) → stkR (W 167) st → (∀ i : Nat, i < w.length → V 158 (1800 * b + p + i) = (w.getD i (0, 0)).1 ∧ V 159 (1800 * b + p + i) = (w.getD i (0, 0)).2) → 0 ≤ p → p + w.length ≤ to → st.length ≤ 1850 →
      (∀ W' : ASt, (∀ a, a ≠ 167 → W' a = V a) → stkR (W' 167) st' → Tr (b_M_works_L14 S0 142 to f W' st'.length (1800 * b + p + w.length)) Q) →
      Tr (b_M_works_L14 S0 142 to (f + w.length) W st.length (1800 * b + p)) Q := by
  intro w
  induction w with
  | nil =>
    intro st st' p W f hrun _ _ fW hs _ _ _ _ hQ
    have : st = st' := Option.some.inj hrun
    subst this
    have := hQ W fW hs
    rw [List.length_nil, show 1800 * b + p + ((0 : Nat) : Int) = 1800 * b + p by omega] at this
    exact this
  | cons c w ih =>
    intro st st' p W f hrun hok hbig fW hs hcd p0 pE hst hQ
    have hc := hok c (List.mem_cons_self ..)
    have hcode : V 158 (1800 * b + p) = c.1 ∧ V 159 (1800 * b + p) = c.2 := by
      have := hcd 0 (by simp)
      rw [show 1800 * b + p + ((0 : Nat) : Int) = 1800 * b + p by omega] at this
      exact this
    have hlen : ((c :: w).length : Int) = w.length + 1 := by simp
    have next : ∀ (s2 : List Int) (W2 : ASt), runW 1850 ev w s2 = some st' → (∀ x, x ∈ s2 → bigI x) → (∀ a, a ≠ 167 → W2 a = V a) → stkR (W2 167) s2 → s2.length ≤ 1850 → Tr (b_M_works_L14 S0 142 to (f + w.length) W2 s2.length (1800 * b + p + 1)) Q := by
      intro s2 W2 h1 h2 h3 h4 h5
      have := ih s2 st' (p + 1) W2 f h1 (fun c hc => hok c (List.mem_cons_of_mem _ hc)) h2 h3 h4 (fun i hi => ?_) (by omega) (by omega) h5 (fun W' h6 h7 => ?_)
      · rw [show 1800 * b + (p + 1) = 1800 * b + p + 1 by omega] at this
        exact this
      · have := hcd (i + 1) (by simp only [List.length_cons]; omega)
        rw [getD_c, show 1800 * b + p + ((i + 1 : Nat) : Int) = 1800 * b + (p + 1) + (i : Int) by omega] at this
        exact this
      · have := hQ W' h6 h7
        rw [hlen, show 1800 * b + p + ((w.length : Int) + 1) = 1800 * b + (p + 1) + (w.length : Int) by omega] at this
        exact this
    rw [List.length_cons, show f + (w.length + 1) = (f + w.length) + 1 by omega, b_M_works_L14, fW 142 (by decide), h12, w32_id (x := 1800 * b) (by omega) (by omega), w32_id (x := 1800 * b + to) (by omega) (by omega)]
    refine Tr_f (by omega) ?_
    rw [F_142_27, A_158, gd_in (by omega) (by omega), fW 158 (by decide), hcode.1]
    rcases runW_c hrun with ⟨c1, c2, c3⟩ | ⟨c1, x, s1, c2, c3, c4⟩ | ⟨c1, c2, a, d, s1, c3, c4, c5⟩
    · -- a value
      have hpb := push_big hns hc c1 (fun s h1 h2 => (hev s h1 h2).1)
      have fin : ∀ v, v = (if c.1 = 0 then c.2 else if c.1 = 9 then 1 else ev c.1) → Tr (b_M_works_J85 S0 (b_M_works_L14 S0 142 to (f + w.length)) W 142 to st.length (1800 * b + p) (aF S0 142 42) st.length v) Q := by
        intro v hv
        unfold b_M_works_J85
        rw [F_142_42, A_167, gd_in (by omega) (by omega), w32_id (x := (st.length : Int) + 1) (by omega) (by omega), w32_id (x := 1800 * b + p + 1) (by omega) (by omega)]
        refine Tr_set (fun W2 e2 n2 => ?_)
        have := next (v :: st) W2 (by rw [hv]; exact c3) (fun y hy => by
          rcases List.mem_cons.mp hy with z | z
          · rw [z, hv]; exact hpb
          · exact hbig y z) (fun a ha => by rw [n2 a ha, fW a ha]) (by rw [e2]; exact stkR_p hs) (by simp only [List.length_cons]; omega)
        rw [List.length_cons, show ((st.length + 1 : Nat) : Int) = (st.length : Int) + 1 by omega] at this
        exact this
      refine Tr_f (by omega) ?_
      by_cases z0 : c.1 = 0
      · rw [if_pos z0] at fin
        refine Tr_t z0 ?_
        rw [F_142_28, A_159, gd_in (by omega) (by omega), fW 159 (by decide), hcode.2]
        exact fin c.2 rfl
      rw [if_neg z0] at fin
      refine Tr_f z0 ?_
      by_cases z9 : c.1 = 9
      · rw [if_pos z9] at fin
        exact Tr_t z9 (fin 1 rfl)
      rw [if_neg z9] at fin
      unfold cOK at hc
      have hcr : 1 ≤ c.1 ∧ c.1 ≤ 3 + (ns.length : Int) := by omega
      refine Tr_f z9 ?_
      rw [F_142_43, A_168, gd_in (by omega) (by omega), fW 168 (by decide), (hev c.1 hcr.1 hcr.2).2]
      exact fin _ rfl
    · -- NOT
      subst c2
      have hx : W 167 (s1.length : Int) = x := hs.1
      rw [c1]
      refine Tr_t (by decide) (Tr_t rfl ?_)
      have hl1 : (((x :: s1).length : Nat) : Int) = (s1.length : Int) + 1 := by simp
      have hst' : s1.length < 1850 := by simp only [List.length_cons] at hst; omega
      rw [hl1, w32_id (x := (s1.length : Int) + 1 - 1) (by omega) (by omega), show (s1.length : Int) + 1 - 1 = s1.length by omega, F_142_42, A_167, gd_in (by omega) (by omega), hx, w64_id (x := 1 - x) (by omega) (by omega), w32_id (x := 1800 * b + p + 1) (by omega) (by omega)]
      refine Tr_set (fun W2 e2 n2 => ?_)
      have := next ((1 - x) :: s1) W2 c4 (fun y hy => by
        rcases List.mem_cons.mp hy with z | z
        · rw [z]; exact ⟨by omega, by omega⟩
        · exact hbig y (List.mem_cons_of_mem _ z)) (fun a ha => by rw [n2 a ha, fW a ha]) (by rw [e2]; exact stkR_p hs.2) (by simp only [List.length_cons]; omega)
      rw [List.length_cons, show ((s1.length + 1 : Nat) : Int) = (s1.length : Int) + 1 by omega] at this
      exact this
    · -- two numbers
      subst c3
      have hcs : 10 ≤ c.1 ∧ c.1 ≤ 21 := by unfold cOK at hc; omega
      have hd : W 167 ((a :: s1).length : Int) = d := hs.1
      have ha : W 167 (s1.length : Int) = a := hs.2.1
      have hl1 : (((d :: a :: s1).length : Nat) : Int) = (s1.length : Int) + 2 := by simp only [List.length_cons]; omega
      have hl2 : (((a :: s1).length : Nat) : Int) = (s1.length : Int) + 1 := by simp
      rw [hl2] at hd
      have hst' : s1.length + 2 ≤ 1850 := by simp only [List.length_cons] at hst; omega
      have ba := hbig a (List.mem_cons_of_mem _ (List.mem_cons_self ..))
      have bb := hbig d (List.mem_cons_self ..)
      refine Tr_t c1 (Tr_f c2 ?_)
      rw [hl1, w32_id (x := (s1.length : Int) + 2 + -1) (by omega) (by omega), w32_id (x := (s1.length : Int) + 2 + -1 - 1) (by omega) (by omega), show (s1.length : Int) + 2 + -1 - 1 = s1.length by omega, show (s1.length : Int) + 2 + -1 = (s1.length : Int) + 1 by omega, F_142_42, A_167, gd_in (by omega) (by omega), A_167, gd_in (by omega) (by omega), ha, hd]
      refine Tr_bq (M_made W hcs ba bb c4) ?_
      rw [w32_id (x := 1800 * b + p + 1) (by omega) (by omega)]
      refine Tr_set (fun W2 e2 n2 => ?_)
      have := next (opv c.1 a d :: s1) W2 c5 (fun y hy => by
        rcases List.mem_cons.mp hy with z | z
        · rw [z]; exact opv_big hcs ba bb c4
        · exact hbig y (List.mem_cons_of_mem _ (List.mem_cons_of_mem _ z))) (fun a ha => by rw [n2 a ha, fW a ha]) (by rw [e2]; exact stkR_p hs.2.2) (by simp only [List.length_cons]; omega)
      rw [List.length_cons, show ((s1.length + 1 : Nat) : Int) = (s1.length : Int) + 1 by omega] at this
      exact this
-- ---- what a test says
def evF (a b c d e : Int) (s : Int) : Int := if s = 1 then a else if s = 2 then b else if s = 3 then c else if s = 4 then d else e
/-- a word that is a test: run in good surroundings it gives 0 or 1, whatever the room -/
def tsW (ns : List (List Int)) (w c : CDs) (v : (Int → Int) → Int) : Prop := (∀ ev, (∀ s, 1 ≤ s → s ≤ 5 → bigI (ev s)) → bl1 (v ev) ∧ ∀ (lim : Int) , 30 ≤ lim → runW lim ev w [] = some [v ev] ∧ runW lim ev c [] = some [v ev]) ∧ (∀ x, x ∈ w → cOK ns x) ∧ (∀ x, x ∈ c → cOK ns x)
theorem runW_ev {lim : Int} {ns : List (List Int)} {ev ev' : Int → Int} (h : ∀ s : Int, 1 ≤ s → s ≤ 3 + (ns.length : Int) → ev s = ev' s) (hns : ns.length ≤ 2) : ∀ (w : CDs) (st : List Int), (∀ c, c ∈ w → cOK ns c) → runW lim ev w st = runW lim ev' w st := by
  intro w
  induction w with
  | nil => intro st _; rfl
  | cons c w ih =>
    intro st hok
    have hc := hok c (List.mem_cons_self ..)
    have e : stW lim ev c st = stW lim ev' c st := by
      unfold stW
      by_cases c1 : c.1 ≤ 9
      · rw [if_pos c1, if_pos c1]
        by_cases c2 : (st.length : Int) < lim
        · rw [if_pos c2, if_pos c2]
          by_cases z0 : c.1 = 0
          · rw [if_pos z0, if_pos z0]
          rw [if_neg z0, if_neg z0]
          by_cases z9 : c.1 = 9
          · rw [if_pos z9, if_pos z9]
          rw [if_neg z9, if_neg z9]
          unfold cOK at hc
          rw [h c.1 (by omega) (by omega)]
        · rw [if_neg c2, if_neg c2]
      · rw [if_neg c1, if_neg c1]
    show (stW lim ev c st).bind (runW lim ev w) = (stW lim ev' c st).bind (runW lim ev' w)
    rw [e]
    rcases stW lim ev' c st with _ | s
    · rfl
    · exact ih s (fun c hc => hok c (List.mem_cons_of_mem _ hc))
theorem tsW_of {K : TKs} {ns : List (List Int)} {N : Int} {m : Nat} {k : Int} (hN : lsT K N) (hnu : ∀ k, K.1 k = 3 → 0 ≤ K.2.2.2 k ∧ K.2.2.2 k ≤ 9999) (hns : ns.length ≤ 2) (hk : k ≤ N) (h : (ps K ns m 0 k 0).1 = 0) : ∃ v, tsW ns (ps K ns m 0 k 0).2.2.1 (ps K ns m 0 k 0).2.2.2 v := by
  have hx : ∀ ev : Int → Int, (∀ s, 1 ≤ s → s ≤ 5 → bigI (ev s)) → ∃ v, bl1 v ∧ pu ev 30 (ps K ns m 0 k 0).2.2.1 (ps K ns m 0 k 0).2.2.2 v := fun ev hev => by
    have := (SE_all (ns := ns) (ev := ev) hN hev (fun k _ h3 => by have := hnu k h3; exact ⟨by omega, by omega⟩) hns m).1 k 0 hk (by decide) (by decide) h
    exact this
  have hcd := ps_cd (ns := ns) hnu m 0 k 0
  refine ⟨fun ev => Classical.epsilon (fun v => bl1 v ∧ pu ev 30 (ps K ns m 0 k 0).2.2.1 (ps K ns m 0 k 0).2.2.2 v), fun ev hev => ?_, hcd.1, hcd.2⟩
  have hs := Classical.epsilon_spec (hx ev hev)
  refine ⟨hs.1, fun lim hl => ?_⟩
  exact hs.2 lim [] (by simp only [List.length_nil]; omega)
