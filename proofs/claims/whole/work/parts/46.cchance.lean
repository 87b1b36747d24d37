/-! chances: the class's -/
def chR (v z : Int) (V : ASt) : Prop := (V v 11 = z + 8 ∧ V v 12 = z + 9) ∨ (V v 11 = z + 9 ∧ V v 12 = z + 8)
theorem AVc {v m z a : Int} (hv : isVl v m z) (ha : a = z + 8 ∨ a = z + 9) (i : Int) : isA S0 a 1 i = inS 200 i := by
  rcases ha with e | e <;> subst e
  · exact AV8 hv i
  · exact AV9 hv i
def frJ (v z : Int) (V U : ASt) : Prop := (∀ a, a ≠ v → a ≠ z + 7 → a ≠ z + 8 → a ≠ z + 9 → U a = V a) ∧ (∀ k, k ≠ 11 → k ≠ 12 → U v k = V v k)
/-- what stands of the class while chances are reckoned -/
def CC (G : GM) (s : SL) (v m z t : Int) (er : Int → Int) (V : ASt) : Prop := LDC G s m V (V m 1) ∧ VS G s m z V ∧ V m 2 = t ∧ dG G t V ∧ (∀ j, 0 ≤ j → j ≤ 1 → V 111 j = er j ∧ 0 ≤ er j ∧ er j ≤ 100)
theorem CC_fr {G : GM} {s : SL} {v m z t : Int} {er : Int → Int} {V W : ASt} (hv : isVl v m z) (ht : isGm t) (h : frJ v z V W) (c : CC G s v m z t er V) : CC G s v m z t er W := by
  have hvv := hv
  have htt := ht
  unfold isVl at hvv
  unfold isGm at htt
  obtain ⟨c1, c2, c3, c4, c5⟩ := c
  have em : W m = V m := h.1 m (by omega) (by omega) (by omega) (by omega)
  refine ⟨?_, ?_, by rw [em]; exact c3, dG_fr (h.1 t (by omega) (by omega) (by omega) (by omega)) (fun o _ _ => h.1 _ (by omega) (by omega) (by omega) (by omega)) c4, by rw [h.1 111 (by omega) (by omega) (by omega) (by omega)]; exact c5⟩
  · rw [em]
    exact LDC_fr (fun o _ _ => h.1 _ (by omega) (by omega) (by omega) (by omega)) c1
  · have elP : lP m W = lP m V := by funext q; unfold lP; rw [h.1 (m + 2) (by omega) (by omega) (by omega) (by omega)]
    unfold VS at *
    rw [elP, h.1 z (by omega) (by omega) (by omega) (by omega), h.1 (z + 1) (by omega) (by omega) (by omega) (by omega)]
    exact c2
theorem frJ_tr {v z : Int} {V U W : ASt} (h : frJ v z V U) (h2 : frJ v z U W) : frJ v z V W := ⟨fun a a1 a2 a3 a4 => by rw [h2.1 a a1 a2 a3 a4, h.1 a a1 a2 a3 a4], fun k k1 k2 => by rw [h2.2 k k1 k2, h.2 k k1 k2]⟩
theorem V_oneMove {G : GM} {s : SL} {v m z t : Int} {er : Int → Int} {V : ASt} (hG : GOK G) (hs : SOK G s) (hv : isVl v m z) (hC : CC G s v m z t er V) {c : Int → Int} {a : Int} (ha : a = z + 8 ∨ a = z + 9) (h12 : V v 12 = a) (hc : ∀ p, lP m V p → V a p = c p ∧ 0 ≤ c p ∧ c p ≤ 1000000000) (hb : ∀ p, lP m V p → V (z + 7) p = bst G s p) {q : Int} (hq : lP m V q) :
    f_Values_chanceOneMoveOn S0 V v q 111 = some (if nx G s q = [] then c q else ((100 - er (q % 2)) * chB c q ((nx G s q).getD (bst G s q).toNat 0) + er (q % 2) * (sm (chB c q) (nx G s q) / (nx G s q).length)) / 100, V) := by
  have hvv := hv
  unfold isVl at hvv
  have hm := isVl_m hv
  obtain ⟨c1, c2, c3, c4, c5⟩ := hC
  have hat := LDC_at hG c1 hq
  have hcl := LDC_cl hG c1
  have h12' := nx_12 hG hs q
  have hq0 := hq.1
  have hq1 := hq.2.1
  have hqp := qPos_le hG
  unfold f_Values_chanceOneMoveOn
  rw [gd_t (OV hv), FV_1 hv, gd_t (OM hm), M_countOf hm ⟨hq0, hq1⟩ hat.2.1, bnd_e, h12]
  by_cases hn : nx G s q = []
  · rw [if_pos (show ((nx G s q).length : Int) = 0 by rw [hn]; rfl), if_pos hn, AVc hv ha, gd_in hq0 hq1, (hc q hq).1]
  rw [if_neg (show ¬ ((nx G s q).length : Int) = 0 from fun e => hn (List.length_eq_zero_iff.mp (by omega))), if_neg hn, and32_1]
  have hbr := bst_in hG hcl c2.1 (fun p hp => hp.1) hq hn
  have hcr : ∀ e, e ∈ nx G s q → 0 ≤ chB c q e ∧ chB c q e ≤ 1000000000 := fun e he => chB_r (fun e0 => (hc e (hcl q hq e he e0)).2)
  have herq := c5 (q % 2) (by omega) (by omega)
  have hlen : 1 ≤ ((nx G s q).length : Int) := by
    have : (nx G s q).length ≠ 0 := fun e => hn (List.length_eq_zero_iff.mp e)
    omega
  have hl : ∀ (n j : Nat) (x7 : Int), j ≤ (nx G s q).length → (nx G s q).length - j < n → (bst G s q < j → x7 = chB c q ((nx G s q).getD (bst G s q).toNat 0)) →
      b_Values_chanceOneMoveOn_L34 S0 v q 111 ((nx G s q).length : Int) (q % 2) n V (sm (chB c q) ((nx G s q).take j)) x7 j = some (((100 - er (q % 2)) * chB c q ((nx G s q).getD (bst G s q).toNat 0) + er (q % 2) * (sm (chB c q) (nx G s q) / (nx G s q).length)) / 100, V) := by
    intro n
    induction n with
    | zero => intro j x7 h1 h2; omega
    | succ n ih =>
      intro j x7 hj hn' hx7
      rw [b_Values_chanceOneMoveOn_L34]
      by_cases cc : ((nx G s q).length : Int) ≤ (j : Int)
      · have hx := hx7 (by omega)
        unfold b_Values_chanceOneMoveOn_J135
        rw [if_pos cc, gd_t O_111, L_111, if_neg (by omega), A_111, gd_in (by omega) (by omega), gd_nz (by omega), herq.1, hx, List.take_of_length_le (by omega)]
        have hmx := mix_e (er := er (q % 2)) (x := chB c q ((nx G s q).getD (bst G s q).toNat 0)) (all := sm (chB c q) (nx G s q)) (len := (nx G s q).length) herq.2 (hcr _ (getD_mem (by omega))) ⟨hlen, by omega⟩ (sm_r (nx G s q) hcr)
        rw [hmx.1]
      have hjl : j < (nx G s q).length := by omega
      have hst := sm_r ((nx G s q).take j) (fun e he => hcr e (List.mem_of_mem_take he))
      rw [List.length_take] at hst
      have hmem := getD_mem hjl
      have hce := hcr _ hmem
      have hrg := hat.2.2.1 _ hmem
      rw [if_neg cc, FV_1 hv, gd_t (OM hm), M_nextOf hG hs hm ⟨hq0, hq1⟩ hat.2.1 hjl, bnd_e]
      have hJ : ∀ y, y = chB c q ((nx G s q).getD j 0) → b_Values_chanceOneMoveOn_J85 S0 (b_Values_chanceOneMoveOn_L34 S0 v q 111 ((nx G s q).length : Int) (q % 2) n) V v q 111 ((nx G s q).length : Int) (q % 2) (sm (chB c q) ((nx G s q).take j)) x7 j y = some (((100 - er (q % 2)) * chB c q ((nx G s q).getD (bst G s q).toNat 0) + er (q % 2) * (sm (chB c q) (nx G s q) / (nx G s q).length)) / 100, V) := by
        intro y hy
        unfold b_Values_chanceOneMoveOn_J85
        rw [FV_10 hv, AV7 hv, gd_in hq0 hq1, hb q hq, hy, w64_id (by omega) (by omega), ← sm_take hjl, w32_id (x := (j : Int) + 1) (by omega) (by omega), show (j : Int) + 1 = ((j + 1 : Nat) : Int) by omega]
        by_cases cb : (j : Int) = bst G s q
        · rw [if_pos cb]
          exact ih (j + 1) _ (by omega) (by omega) (fun _ => by rw [← cb, show ((j : Int)).toNat = j by omega])
        · rw [if_neg cb]
          exact ih (j + 1) _ (by omega) (by omega) (fun z => hx7 (by omega))
      generalize hE : (nx G s q).getD j 0 = e at *
      by_cases ce : e < 0
      · rw [if_pos ce]
        unfold b_Values_chanceOneMoveOn_J82 f_Values_chanceOfWinner
        by_cases c1' : e = -1
        · rw [if_pos c1']
          by_cases c3' : q % 2 = 0
          · rw [if_pos c3', bnd_e]
            exact hJ _ (by unfold chB; rw [if_pos ce, if_pos (Or.inl ⟨c1', c3'⟩)])
          · rw [if_neg c3', bnd_e]
            exact hJ _ (by unfold chB; rw [if_pos ce, if_neg (by omega)])
        · rw [if_neg c1', w32_id (x := 1 - q % 2) (by omega) (by omega)]
          by_cases c3' : 1 - q % 2 = 0
          · rw [if_pos c3', bnd_e]
            exact hJ _ (by unfold chB; rw [if_pos ce, if_pos (Or.inr ⟨c1', by omega⟩)])
          · rw [if_neg c3', bnd_e]
            exact hJ _ (by unfold chB; rw [if_pos ce, if_neg (by omega)])
      · rw [if_neg ce, h12, AVc hv ha, gd_in (by omega) (by omega)]
        refine hJ _ ?_
        unfold chB
        rw [if_neg ce]
        exact (hc e (hcl q hq e hmem (by omega))).1
  have := hl FU 0 0 (Nat.zero_le _) (by rw [FU_v]; omega) (fun z => by omega)
  exact this
theorem cf_L112 {G : GM} {s : SL} {v m z t : Int} {er : Int → Int} {V : ASt} (hG : GOK G) (hs : SOK G s) (hv : isVl v m z) (ht : isGm t) (hC : CC G s v m z t er V) {N : Nat} {a b : Int} (hab : (a = z + 8 ∧ b = z + 9) ∨ (a = z + 9 ∧ b = z + 8)) (h11 : V v 11 = b) (h12 : V v 12 = a) (hc : ∀ p, lP m V p → V a p = chS G s er N p ∧ 0 ≤ chS G s er N p ∧ chS G s er N p ≤ 1000000000) (hb : ∀ p, lP m V p → V (z + 7) p = bst G s p) {x1 x2 x4 : Int} {K83 : ASt → Int → Option (Int × ASt)} {Q : Int → ASt → Prop}
    (hK : ∀ U : ASt, (∀ c, c ≠ b → U c = V c) → (∀ p, lP m V p → U b p = chS G s er (N + 1) p) → Tr (K83 U (w32 (x4 + 1))) Q) :
    ∀ (n : Nat) (x : Int) (W : ASt), 0 ≤ x → x ≤ V m 1 → V m 1 - x < n → (∀ c, c ≠ b → W c = V c) → (∀ i, 0 ≤ i → i < x → W b (V (m + 1) i) = chS G s er (N + 1) (V (m + 1) i)) → Tr (b_Values_chanceFrom_L112 S0 K83 v x1 x2 111 x4 n W x) Q := by
  have hvv := hv
  have htt := ht
  unfold isVl at hvv
  unfold isGm at htt
  have hm := isVl_m hv
  have hL := hC.1
  have h200 := hL.1.2.1
  intro n
  induction n with
  | zero => intro x W h1 h2; omega
  | succ n ih =>
    intro x W x0 x1' hn fW hd
    have cm : W m = V m := fW m (by omega)
    have cm1 : W (m + 1) = V (m + 1) := fW _ (by omega)
    rw [b_Values_chanceFrom_L112, FV_1 hv, gd_t (OM hm), cm]
    refine Tr_if (fun c => ?_) (fun c => ?_)
    · refine hK W fW (fun p hp => ?_)
      obtain ⟨-, -, -, i, i0, i1, i2⟩ := LDC_at hG hL hp
      rw [← i2]; exact hd i i0 (by omega)
    refine Tr_bq (M_listedAt hm (i := x) x0 (by rw [cm]; omega) (by rw [cm]; exact h200)) ?_
    rw [cm1]
    have hp := LDC_in hG hL x0 (by omega)
    have fJ : frJ v z V W := ⟨fun c c1 c2 c3 c4 => fW c (by omega), fun k _ _ => by rw [fW v (by omega)]⟩
    have CW := CC_fr hv ht fJ hC
    have elP : lP m W = lP m V := by funext q; unfold lP; rw [fW (m + 2) (by omega)]
    have hone := V_oneMove hG hs hv CW (c := chS G s er N) (a := a) (by omega) (by rw [fW v (by omega)]; exact h12) (by rw [elP, fW a (by omega)]; exact hc) (by rw [elP, fW (z + 7) (by omega)]; exact hb) (q := V (m + 1) x) (by rw [elP]; exact hp)
    refine Tr_bq hone ?_
    rw [fW v (by omega), h11, AVc hv (a := b) (by omega), gd_in hp.1 hp.2.1]
    refine Tr_set (fun V1 e1 n1 => ?_)
    rw [w32_id (x := x + 1) (by omega) (by omega)]
    refine ih (x + 1) V1 (by omega) (by omega) (by omega) (fun c hcb => by rw [n1 c hcb, fW c hcb]) (fun i i0 i1 => ?_)
    rw [e1]
    by_cases zz : i = x
    · rw [zz, upI_s, chS_s]
    · have hne : V (m + 1) i ≠ V (m + 1) x := fun q => zz (hL.1.2.2.2.1 i x i0 (by omega) x0 (by omega) q)
      rw [upI_n _ _ hne]; exact hd i i0 (by omega)
theorem chS_r {G : GM} {s : SL} {er : Int → Int} {D : Int → Prop} {w t : Int → Int} (hG : GOK G) (hs : SOK G s) (hc : cl (nx G s) D) (hS : Sol (nx G s) (qU G - 1) D w t) (hD0 : ∀ p, D p → 0 ≤ p) (her : ∀ j, 0 ≤ j → j ≤ 1 → 0 ≤ er j ∧ er j ≤ 100) : ∀ N p, D p → 0 ≤ chS G s er N p ∧ chS G s er N p ≤ 1000000000 := by
  intro N
  induction N with
  | zero =>
    intro p _
    show 0 ≤ ch0 G s p ∧ ch0 G s p ≤ 1000000000
    unfold ch0
    by_cases z : nx G s p = [] ∧ ((qU G = 2 ∧ p % 2 = 0) ∨ (qU G = 0 ∧ p % 2 = 1))
    · rw [if_pos z]; omega
    · rw [if_neg z]; omega
  | succ N ih =>
    intro p hp
    rw [chS_s]
    by_cases hm : nx G s p = []
    · rw [if_pos hm]; exact ih p hp
    · rw [if_neg hm]
      have hb := bst_in hG hc hS hD0 hp hm
      have hcr : ∀ e, e ∈ nx G s p → 0 ≤ chB (chS G s er N) p e ∧ chB (chS G s er N) p e ≤ 1000000000 := fun e he => chB_r (fun e0 => ih e (hc p hp e he e0))
      have hlen : 1 ≤ ((nx G s p).length : Int) := by
        have : (nx G s p).length ≠ 0 := fun e => hm (List.length_eq_zero_iff.mp e)
        omega
      have h12 := nx_12 hG hs p
      have hp0 := hD0 p hp
      exact (mix_e (er := er (p % 2)) (her (p % 2) (by omega) (by omega)) (hcr _ (getD_mem (by omega))) ⟨hlen, by omega⟩ (sm_r (nx G s p) hcr)).2
theorem cf_L83 {G : GM} {s : SL} {v m z t : Int} {er : Int → Int} {V : ASt} (hG : GOK G) (hs : SOK G s) (hv : isVl v m z) (ht : isGm t) (hC : CC G s v m z t er V) {st x2 : Int} (hst : lP m V st) (hx2 : 0 ≤ x2 ∧ x2 ≤ 40) :
    ∀ (n N : Nat) (W : ASt), (N : Int) ≤ x2 → x2 - N < n → frJ v z V W → chR v z W → (∀ p, lP m V p → W (W v 11) p = chS G s er N p) → (∀ p, lP m V p → W (z + 7) p = bst G s p) →
      Tr (b_Values_chanceFrom_L83 S0 v st x2 111 n W N) (fun y U => y = chS G s er x2.toNat st ∧ frJ v z V U ∧ chR v z U) := by
  have hvv := hv
  have htt := ht
  unfold isVl at hvv
  unfold isGm at htt
  have hm := isVl_m hv
  have hcl := LDC_cl hG hC.1
  have hrng := chS_r hG hs hcl hC.2.1.1 (fun p hp => hp.1) (er := er) (fun j a b => (hC.2.2.2.2 j a b).2)
  intro n
  induction n with
  | zero => intro N W h1 h2; omega
  | succ n ih =>
    intro N W hN hn fW hR hc hb
    have h11 : W v 11 = z + 8 ∨ W v 11 = z + 9 := by rcases hR with q | q <;> omega
    rw [b_Values_chanceFrom_L83]
    refine Tr_if (fun c => ?_) (fun c => ?_)
    · have := hrng N st hst
      rw [if_neg (by have := hst.1; omega), if_neg (by have := hst.2.1; omega), AVc hv h11, gd_in hst.1 hst.2.1, hc st hst, w32_id (by omega) (by omega)]
      refine Tr_ret ⟨?_, fW, hR⟩
      rw [show x2.toNat = N by omega]
    have hnn : nn (W v 12) = true := decide_eq_true (by rcases hR with q | q <;> omega)
    rw [gd_t hnn]
    refine Tr_set (fun V1 e1 n1 => ?_)
    refine Tr_set (fun V2 e2 n2 => ?_)
    have r11 : V2 v 11 = W v 12 := by rw [e2, upI_s]
    have r12 : V2 v 12 = W v 11 := by rw [e2, upI_n _ _ (by decide), e1, upI_s]
    have rest : ∀ c, c ≠ v → V2 c = W c := fun c hcv => by rw [n2 c hcv, n1 c hcv]
    have f2 : frJ v z V V2 := ⟨fun c c1 c2 c3 c4 => by rw [rest c c1, fW.1 c c1 c2 c3 c4], fun k k1 k2 => by rw [e2, upI_n _ _ k1, e1, upI_n _ _ k2, fW.2 k k1 k2]⟩
    have C2 := CC_fr hv ht f2 hC
    have elP : lP m V2 = lP m V := by funext q; unfold lP; rw [f2.1 (m + 2) (by omega) (by omega) (by omega) (by omega)]
    have em : V2 m = V m := f2.1 m (by omega) (by omega) (by omega) (by omega)
    refine cf_L112 hG hs hv ht C2 (N := N) (a := W v 11) (b := W v 12) (by rcases hR with q | q <;> omega) r11 r12 (by rw [elP, rest (W v 11) (by omega)]; exact fun p hp => ⟨hc p hp, hrng N p hp⟩) (by rw [elP, rest (z + 7) (by omega)]; exact hb) (fun U u1 u2 => ?_) FU 0 V2 (by omega) C2.1.1.1 (by rw [FU_v]; have := C2.1.1.2.1; omega) (fun _ _ => rfl) (fun i a b => by omega)
    rw [w32_id (by omega) (by omega), show (N : Int) + 1 = ((N + 1 : Nat) : Int) by omega]
    have hb2 : W v 12 = z + 8 ∨ W v 12 = z + 9 := by rcases hR with q | q <;> omega
    have uv : U v = V2 v := u1 v (by omega)
    refine ih (N + 1) U (by omega) (by omega) ⟨fun c c1 c2 c3 c4 => by rw [u1 c (by omega), f2.1 c c1 c2 c3 c4], fun k k1 k2 => by rw [uv, f2.2 k k1 k2]⟩ ?_ ?_ ?_
    · unfold chR
      rw [uv, r11, r12]
      rcases hR with q | q
      · exact Or.inr ⟨q.2, q.1⟩
      · exact Or.inl ⟨q.2, q.1⟩
    · rw [uv, r11]
      rw [elP] at u2
      exact u2
    · rw [u1 (z + 7) (by omega), rest (z + 7) (by omega)]; exact hb
theorem V_chanceFrom {G : GM} {s : SL} {v m z t : Int} {er : Int → Int} {V : ASt} (hG : GOK G) (hs : SOK G s) (hv : isVl v m z) (ht : isGm t) (hC : CC G s v m z t er V) (hR : chR v z V) {st x2 : Int} (hst : lP m V st) (hx2 : 0 ≤ x2 ∧ x2 ≤ 40) :
    Tr (f_Values_chanceFrom S0 V v st x2 111) (fun y U => y = chS G s er x2.toNat st ∧ frJ v z V U ∧ chR v z U) := by
  have hvv := hv
  have htt := ht
  unfold isVl at hvv
  unfold isGm at htt
  have hm := isVl_m hv
  have hL := hC.1
  have h200 := hL.1.2.1
  have hU := hG.2.2.2.1
  have h11 : V v 11 = z + 8 ∨ V v 11 = z + 9 := by rcases hR with q | q <;> omega
  unfold f_Values_chanceFrom
  rw [gd_t (OV hv)]
  have hl : ∀ (n : Nat) (x : Int) (W : ASt), 0 ≤ x → x ≤ V m 1 → V m 1 - x < n → (∀ c, c ≠ z + 7 → c ≠ V v 11 → W c = V c) → (∀ i, 0 ≤ i → i < x → W (z + 7) (V (m + 1) i) = bst G s (V (m + 1) i) ∧ W (V v 11) (V (m + 1) i) = ch0 G s (V (m + 1) i)) →
      Tr (b_Values_chanceFrom_L3 S0 v st x2 111 n W x) (fun y U => y = chS G s er x2.toNat st ∧ frJ v z V U ∧ chR v z U) := by
    intro n
    induction n with
    | zero => intro x W h1 h2; omega
    | succ n ih =>
      intro x W x0 x1' hn fW hd
      have cm : W m = V m := fW m (by omega) (by omega)
      have cm1 : W (m + 1) = V (m + 1) := fW _ (by omega) (by omega)
      have cv : W v = V v := fW v (by omega) (by omega)
      have fJ : frJ v z V W := ⟨fun c c1 c2 c3 c4 => fW c (by omega) (by omega), fun k _ _ => by rw [cv]⟩
      have CW := CC_fr hv ht fJ hC
      have elP : lP m W = lP m V := by funext q; unfold lP; rw [fW (m + 2) (by omega) (by omega)]
      rw [b_Values_chanceFrom_L3, FV_1 hv, gd_t (OM hm), cm]
      refine Tr_if (fun c => ?_) (fun c => ?_)
      · have hall : ∀ p, lP m V p → W (z + 7) p = bst G s p ∧ W (V v 11) p = ch0 G s p := fun p hp => by
          obtain ⟨-, -, -, i, i0, i1, i2⟩ := LDC_at hG hL hp
          rw [← i2]; exact hd i i0 (by omega)
        exact cf_L83 hG hs hv ht hC hst hx2 FU 0 W (by omega) (by rw [FU_v]; omega) fJ (by unfold chR at *; rw [cv]; exact hR) (by rw [cv]; exact fun p hp => (hall p hp).2) (fun p hp => (hall p hp).1)
      refine Tr_bq (M_listedAt hm (i := x) x0 (by rw [cm]; omega) (by rw [cm]; exact h200)) ?_
      rw [cm1]
      have hp := LDC_in hG hL x0 (by omega)
      have hpW : lP m W (V (m + 1) x) := by rw [elP]; exact hp
      refine Tr_bq (V_bestMoveOf hG hs hv CW.1 CW.2.1 hpW) ?_
      rw [FV_10 hv, AV7 hv, gd_in hp.1 hp.2.1]
      refine Tr_set (fun V1 e1 n1 => ?_)
      have f1 : ∀ c, c ≠ z + 7 → V1 c = W c := n1
      have fJ1 : frJ v z V V1 := ⟨fun c c1 c2 c3 c4 => by rw [f1 c c2, fW c (by omega) (by omega)], fun k _ _ => by rw [f1 v (by omega), cv]⟩
      have C1 := CC_fr hv ht fJ1 hC
      have hat := LDC_at hG C1.1 (p := V (m + 1) x) (by unfold lP; rw [f1 (m + 2) (by omega)]; exact hpW)
      have hinj : ∀ i, 0 ≤ i → i < x → V (m + 1) i ≠ V (m + 1) x := fun i i0 i1 e => by have := hL.1.2.2.2.1 i x i0 (by omega) x0 (by omega) e; omega
      have hJ : ∀ y, y = ch0 G s (V (m + 1) x) → Tr (b_Values_chanceFrom_J73 S0 (b_Values_chanceFrom_L3 S0 v st x2 111 n) V1 v st x2 111 x (V1 v 11) (V (m + 1) x) y) (fun y U => y = chS G s er x2.toNat st ∧ frJ v z V U ∧ chR v z U) := by
        intro y hy
        unfold b_Values_chanceFrom_J73
        rw [f1 v (by omega), cv, AVc hv h11, gd_in hp.1 hp.2.1]
        refine Tr_set (fun V2 e2 n2 => ?_)
        rw [w32_id (x := x + 1) (by omega) (by omega)]
        refine ih (x + 1) V2 (by omega) (by omega) (by omega) (fun c c1 c2 => by rw [n2 c c2, f1 c c1, fW c c1 c2]) (fun i i0 i1 => ?_)
        rw [n2 (z + 7) (by omega), e1, e2, f1 (V v 11) (by omega)]
        by_cases zz : i = x
        · rw [zz, upI_s, upI_s]; exact ⟨rfl, hy⟩
        · rw [upI_n _ _ (hinj i i0 (by omega)), upI_n _ _ (hinj i i0 (by omega))]; exact hd i i0 (by omega)
      refine Tr_bq (M_countOf hm ⟨hp.1, hp.2.1⟩ hat.2.1) ?_
      refine Tr_if (fun c1 => ?_) (fun c1 => ?_)
      · have hnil : nx G s (V (m + 1) x) = [] := List.length_eq_zero_iff.mp (by omega)
        unfold f_Moves_winnerWhenStuck
        rw [gd_t (OM hm), C1.2.2.1, gd_t (OG ht), and32_1, G_winner ht C1.2.2.2.1 (by omega), bnd_e, bnd_e]
        unfold f_Values_chanceOfWinner
        have hUc : qU G = 0 ∨ qU G = 1 ∨ qU G = 2 := by omega
        have hw : ∀ w, (if qU G = 1 then 2 else if qU G = 2 then V (m + 1) x % 2 else 1 - V (m + 1) x % 2) = w → (if w = 0 then (1000000000 : Int) else 0) = ch0 G s (V (m + 1) x) := by
          intro w hw
          unfold ch0
          by_cases cz : (qU G = 2 ∧ V (m + 1) x % 2 = 0) ∨ (qU G = 0 ∧ V (m + 1) x % 2 = 1)
          · have w0 : w = 0 := by
              rw [← hw]
              rcases cz with q | q
              · rw [if_neg (by omega), if_pos q.1]; exact q.2
              · rw [if_neg (by omega), if_neg (by omega)]; omega
            rw [if_pos w0, if_pos (show nx G s (V (m + 1) x) = [] ∧ _ from ⟨hnil, cz⟩)]
          · have w0 : w ≠ 0 := by
              rw [← hw]
              rcases hUc with q | q | q
              · rw [if_neg (by omega), if_neg (by omega)]; omega
              · rw [if_pos q]; decide
              · rw [if_neg (by omega), if_pos q]; omega
            rw [if_neg w0, if_neg (fun q : nx G s (V (m + 1) x) = [] ∧ _ => cz q.2)]
        generalize hgw : (if qU G = 1 then 2 else if qU G = 2 then V (m + 1) x % 2 else 1 - V (m + 1) x % 2) = w at *
        have h1 := hw w rfl
        by_cases cz : w = 0
        · rw [if_pos cz, bnd_e]
          rw [if_pos cz] at h1
          exact hJ _ h1
        · rw [if_neg cz, bnd_e]
          rw [if_neg cz] at h1
          exact hJ _ h1
      · refine hJ 0 ?_
        unfold ch0
        rw [if_neg (fun q => by rw [q.1] at c1; exact c1 rfl)]
  exact hl FU 0 V (by omega) hL.1.1 (by rw [FU_v]; omega) (fun _ _ _ => rfl) (fun i a b => by omega)
