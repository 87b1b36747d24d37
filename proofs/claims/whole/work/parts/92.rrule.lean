/-! the reference's statements: rules -/
/-- a token that nothing asks for: fault at once -/
theorem ps_b {K : TKs} {ns : List (List Int)} {k : Int} (h : K.1 k = 1) (m : Nat) : ps K ns (m + 8) 0 k 0 = flR K 1 k := by
  have p10 : ps K ns (m + 1) 10 k 0 = flR K 1 k := by
    show (if K.1 k = 40 then _ else if K.1 k = 3 then _ else if K.1 k = 274 then _ else if K.1 k = 275 then _ else if K.1 k = 276 then _ else if K.1 k = 277 then _ else if K.1 k = 278 then _ else if K.1 k = 2 then _ else _) = flR K 1 k
    rw [h]; rfl
  have hf : (flR K 1 k).1 ≠ 0 := by show (1 : Int) ≠ 0; decide
  have p8 : ps K ns (m + 2) 8 k 0 = flR K 1 k := by
    show sqR (ps K ns (m + 1) 10 k 0) (fun j => ps K ns (m + 1) 9 j 0) = flR K 1 k
    rw [p10]; exact sqR_f hf
  have p6 : ps K ns (m + 3) 6 k 0 = flR K 1 k := by
    show sqR (ps K ns (m + 2) 8 k 0) (fun j => ps K ns (m + 2) 7 j 0) = flR K 1 k
    rw [p8]; exact sqR_f hf
  have p5 : ps K ns (m + 4) 5 k 0 = flR K 1 k := by
    rw [ps, if_neg (by decide), if_neg (by decide), if_neg (by decide), if_neg (by decide), if_neg (by decide), if_pos rfl, p6]; exact sqR_f hf
  have p11 : ps K ns (m + 5) 11 k 0 = flR K 1 k := by
    show (if K.1 k = 91 then _ else if K.1 k = 273 then _ else ps K ns (m + 4) 5 k 0) = flR K 1 k
    rw [if_neg (by omega), if_neg (by omega), p5]
  have hc : ntC K.1 2000 k = 0 := by
    rw [ntC, if_neg (by omega)]
  have p4 : ps K ns (m + 6) 4 k 0 = flR K 1 k := by
    show ntR (ntC K.1 2000 k) (ps K ns (m + 5) 11 (k + ntC K.1 2000 k) 0) = flR K 1 k
    rw [hc, show k + ((0 : Nat) : Int) = k by omega, p11]
    unfold ntR; rw [if_neg hf]
  have p2 : ps K ns (m + 7) 2 k 0 = flR K 1 k := by
    show sqR (ps K ns (m + 6) 4 k 0) (fun j => ps K ns (m + 6) 3 j 0) = flR K 1 k
    rw [p4]; exact sqR_f hf
  show sqR (ps K ns (m + 7) 2 k 0) (fun j => ps K ns (m + 7) 1 j 0) = flR K 1 k
  rw [p2]; exact sqR_f hf
theorem nn_sq {a : R3} {f : Int → R3} (h : 0 ≤ a.1) (h2 : ∀ k, 0 ≤ (f k).1) : 0 ≤ (sqR a f).1 := by
  by_cases c : a.1 = 0
  · rw [sqR_o c]
    by_cases d : (f a.2.1).1 = 0
    · rw [if_pos d]; exact Int.le_refl 0
    · rw [if_neg d]; exact h2 _
  · rw [sqR_f c]; exact h
theorem nn_fl {K : TKs} {kd k : Int} (h : 0 ≤ kd) : 0 ≤ (flR K kd k).1 := h
theorem nn_ok {k : Int} {w : CDs} : 0 ≤ (okR k w).1 := Int.le_refl 0
theorem nn_if {c : Prop} [Decidable c] {a b : R3} (h : 0 ≤ a.1) (h2 : 0 ≤ b.1) : 0 ≤ (if c then a else b).1 := by
  by_cases z : c
  · rw [if_pos z]; exact h
  · rw [if_neg z]; exact h2
theorem nn_nt {c : Nat} {r : R3} (h : 0 ≤ r.1) : 0 ≤ (ntR c r).1 := by
  unfold ntR
  by_cases z : r.1 = 0
  · rw [if_pos z]; exact Int.le_refl 0
  · rw [if_neg z]; exact h
theorem ps_nn {K : TKs} {ns : List (List Int)} : ∀ (m nt : Nat) (k o : Int), 0 ≤ (ps K ns m nt k o).1 := by
  intro m
  induction m with
  | zero => intro nt k o; show (0 : Int) ≤ 9; decide
  | succ m ih =>
    intro nt k o
    rw [ps]
    exact (nn_if (nn_sq (ih _ _ _) (fun _ => (ih _ _ _))) (nn_if (nn_if (nn_sq (nn_sq (ih _ _ _) (fun _ => nn_ok)) (fun _ => (ih _ _ _))) nn_ok) (nn_if (nn_sq (ih _ _ _) (fun _ => (ih _ _ _))) (nn_if (nn_if (nn_sq (nn_sq (ih _ _ _) (fun _ => nn_ok)) (fun _ => (ih _ _ _))) nn_ok) (nn_if (nn_nt (ih _ _ _)) (nn_if (nn_sq (ih _ _ _) (fun _ => (nn_if (nn_sq (ih _ _ _) (fun _ => nn_ok)) (nn_if (nn_sq (ih _ _ _) (fun _ => nn_ok)) (nn_if (nn_sq (ih _ _ _) (fun _ => nn_ok)) (nn_fl (by decide))))))) (nn_if (nn_sq (ih _ _ _) (fun _ => (ih _ _ _))) (nn_if (nn_if (nn_sq (nn_sq (ih _ _ _) (fun _ => nn_ok)) (fun _ => (ih _ _ _))) (nn_if (nn_sq (nn_sq (ih _ _ _) (fun _ => nn_ok)) (fun _ => (ih _ _ _))) nn_ok)) (nn_if (nn_sq (ih _ _ _) (fun _ => (ih _ _ _))) (nn_if (nn_if (nn_sq (nn_sq (ih _ _ _) (fun _ => nn_ok)) (fun _ => (ih _ _ _))) (nn_if (nn_sq (nn_sq (ih _ _ _) (fun _ => nn_ok)) (fun _ => (ih _ _ _))) (nn_if (nn_sq (nn_sq (ih _ _ _) (fun _ => nn_ok)) (fun _ => (ih _ _ _))) nn_ok))) (nn_if (nn_if (nn_if (nn_fl (by decide)) (nn_sq (ih _ _ _) (fun _ => (nn_if nn_ok (nn_fl (by decide)))))) (nn_if nn_ok (nn_if nn_ok (nn_if nn_ok (nn_if nn_ok (nn_if (ih _ _ _) (nn_if (ih _ _ _) (nn_if (nn_if (nn_fl (by decide)) nn_ok) (nn_fl (by decide)))))))))) (nn_if (nn_if (nn_if (nn_fl (by decide)) (nn_sq (ih _ _ _) (fun _ => (nn_if nn_ok (nn_fl (by decide)))))) (nn_if nn_ok (ih _ _ _))) (nn_if (nn_if (nn_fl (by decide)) (nn_sq (ih _ _ _) (fun _ => (nn_if (nn_sq (ih _ _ _) (fun _ => (nn_if nn_ok (nn_fl (by decide))))) (nn_fl (by decide)))))) (nn_fl (by decide)))))))))))))))
theorem tsS_b {K : TKs} {ns : List (List Int)} {k : Int} {f : Int → CDs → CDs → PR} (h : K.1 k = 1) : tsS K ns k f = Sum.inl (1, K.2.1 k) := by
  unfold tsS
  rw [show (30000 : Nat) = 29992 + 8 from rfl, ps_b h, if_neg (show ¬ ((flR K 1 k).1 = 0) by show ¬ ((1 : Int) = 0); decide)]
  rfl
theorem mvE_b {K : TKs} {k pc : Int} {f : Int → Int → Int → Int → PR} (h : K.1 k = 1) : mvE K k pc f = Sum.inl (1, K.2.1 k) := by
  unfold mvE
  rw [if_pos (by rw [h]; decide)]
theorem ruK_b {K : TKs} {s : GS} {ev k : Int} (h : K.1 k = 1) : ruK K s ev k = Sum.inl (1, K.2.1 k) := by
  unfold ruK
  rw [if_pos (by rw [h]; decide)]
/-- the head of the rule that is being told -/
def RH (i kd ev pc wy st : Int) (V : ASt) : Prop := V 151 i = kd ∧ V 155 i = ev ∧ V 152 i = pc ∧ V 153 i = wy ∧ V 154 i = st
theorem RH_k {i kd ev pc wy st : Int} {V U : ASt} (h : RH i kd ev pc wy st V) (f : ∀ a, 151 ≤ a → a ≤ 155 → U a = V a) : RH i kd ev pc wy st U := by
  unfold RH at *
  rw [f 151 (by decide) (by decide), f 152 (by decide) (by decide), f 153 (by decide) (by decide), f 154 (by decide) (by decide), f 155 (by decide) (by decide)]
  exact h
theorem gmB_r {b kd ev pc wy st : Int} {w c : CDs} {s : GS} {V U : ASt} (h : gmB b s V) (hH : RH (12 * b + s.2.2.2.length) kd ev pc wy st U) (h6 : U 156 (12 * b + s.2.2.2.length) = (cwR s.2.2.2).length) (h7 : U 157 (12 * b + s.2.2.2.length) = ((cwR s.2.2.2 ++ w).length : Nat)) (h5 : U 150 b = s.2.2.2.length + 1) (hc : cdR b (cwR s.2.2.2 ++ w) U) (ho : ∀ a, 144 ≤ a → a ≤ 149 → U a = V a) (hr : ∀ a i, 151 ≤ a → a ≤ 157 → i ≠ 12 * b + s.2.2.2.length → U a i = V a i) : gmB b (addR s (kd, ev, pc, wy, st, w, c)) U := by
  obtain ⟨g1, g2, g5, g6, g7, g8, g9⟩ := h
  refine ⟨by rw [ho 144 (by decide) (by decide)]; exact g1, ?_, ?_, by rw [ho 149 (by decide) (by decide)]; exact g6, ?_, ?_, ?_⟩
  · show nmR b (nsG s) U
    unfold nmR at *
    rw [ho 145 (by decide) (by decide), ho 146 (by decide) (by decide)]
    exact g2
  · intro i hi
    rw [ho 147 (by decide) (by decide), ho 148 (by decide) (by decide)]
    exact g5 i hi
  · show U 150 b = ((s.2.2.2 ++ [(kd, ev, pc, wy, st, w, c)]).length : Nat)
    rw [h5, List.length_append]; simp
  · intro i hi
    have hi' : i < (s.2.2.2 ++ [(kd, ev, pc, wy, st, w, c)]).length := hi
    simp only [List.length_append, List.length_cons, List.length_nil] at hi'
    show U 151 (12 * b + (i : Int)) = ((s.2.2.2 ++ [(kd, ev, pc, wy, st, w, c)]).getD i dRU).1 ∧ U 155 (12 * b + (i : Int)) = ((s.2.2.2 ++ [(kd, ev, pc, wy, st, w, c)]).getD i dRU).2.1 ∧ U 152 (12 * b + (i : Int)) = ((s.2.2.2 ++ [(kd, ev, pc, wy, st, w, c)]).getD i dRU).2.2.1 ∧ U 153 (12 * b + (i : Int)) = ((s.2.2.2 ++ [(kd, ev, pc, wy, st, w, c)]).getD i dRU).2.2.2.1 ∧ U 154 (12 * b + (i : Int)) = ((s.2.2.2 ++ [(kd, ev, pc, wy, st, w, c)]).getD i dRU).2.2.2.2.1 ∧ U 156 (12 * b + (i : Int)) = (cwR ((s.2.2.2 ++ [(kd, ev, pc, wy, st, w, c)]).take i)).length ∧ U 157 (12 * b + (i : Int)) = (cwR ((s.2.2.2 ++ [(kd, ev, pc, wy, st, w, c)]).take (i + 1))).length
    by_cases q : i < s.2.2.2.length
    · rw [getD_l q, List.take_append_of_le_length (show i ≤ s.2.2.2.length by omega), List.take_append_of_le_length (show i + 1 ≤ s.2.2.2.length by omega)]
      have hn : (12 * b + (i : Int)) ≠ 12 * b + (s.2.2.2.length : Int) := by omega
      rw [hr 151 _ (by decide) (by decide) hn, hr 152 _ (by decide) (by decide) hn, hr 153 _ (by decide) (by decide) hn, hr 154 _ (by decide) (by decide) hn, hr 155 _ (by decide) (by decide) hn, hr 156 _ (by decide) (by decide) hn, hr 157 _ (by decide) (by decide) hn]
      exact g8 i q
    · have e : i = s.2.2.2.length := by omega
      subst e
      rw [getD_r, List.take_append_of_le_length (Nat.le_refl _), List.take_length, List.take_of_length_le (by simp), cwR_a]
      exact ⟨hH.1, hH.2.1, hH.2.2.1, hH.2.2.2.1, hH.2.2.2.2, h6, h7⟩
  · show cdR b (cwR (s.2.2.2 ++ [(kd, ev, pc, wy, st, w, c)])) U
    rw [cwR_a]
    exact hc
theorem gB_x {b a x : Int} {s : GS} {V U : ASt} (h : gmB b s V) (ha : 151 ≤ a ∧ a ≤ 157) (e : U a = upI (V a) (12 * b + s.2.2.2.length) x) (n : ∀ c, c ≠ a → U c = V c) : gmB b s U := by
  have hr : ∀ c (i : Nat), i < s.2.2.2.length → U c (12 * b + (i : Int)) = V c (12 * b + (i : Int)) := by
    intro c i hi
    by_cases z : c = a
    · rw [z, e, upI_n _ _ (by omega)]
    · rw [n c z]
  obtain ⟨g1, g2, g5, g6, g7, g8, g9⟩ := h
  unfold gmB nmR cdR at *
  rw [n 142 (by omega), n 144 (by omega), n 145 (by omega), n 146 (by omega), n 147 (by omega), n 148 (by omega), n 149 (by omega), n 150 (by omega), n 158 (by omega), n 159 (by omega)]
  refine ⟨g1, g2, g5, g6, g7, fun i hi => ?_, g9⟩
  rw [hr 151 i hi, hr 152 i hi, hr 153 i hi, hr 154 i hi, hr 155 i hi, hr 156 i hi, hr 157 i hi]
  exact g8 i hi
theorem R_186 {b m : Int} {V : ASt} (hb : b = 0 ∨ b = 1) (h30 : V 142 30 = b) (hm : 0 ≤ m ∧ m < 12) (h150 : V 150 b = m) : Tr (b_M_rule_0_J186 S0 V 142 (12 * b + m)) (fun _ Z => fB b V Z ∧ Z 142 = V 142 ∧ (V 142 8 = 0 → Z 157 = upI (V 157) (12 * b + m) (V 142 29) ∧ Z 150 = upI (V 150) b (m + 1) ∧ ∀ a, a ≠ 150 → a ≠ 157 → Z a = V a)) := by
  unfold b_M_rule_0_J186
  rw [F_142_26, A_157, gd_in (by omega) (by omega)]
  refine Tr_set (fun Y eY nY => ?_)
  have gY : fB b V Y := fB_s (by decide) (by unfold oB; omega) eY nY
  refine Tr_if (fun c => ?_) (fun c => ?_)
  · have y30 : Y 142 30 = b := by rw [fB_30 gY]; exact h30
    rw [F_142_19, y30, A_150, gd_in (by omega) (by omega), nY 150 (by decide), h150, w32_id (by omega) (by omega)]
    refine Tr_set (fun Z eZ nZ => Tr_ret ⟨fB_tr gY (fB_s (by decide) (by unfold oB; omega) eZ nZ), by rw [nZ 142 (by decide), nY 142 (by decide)], fun _ => ⟨by rw [nZ 157 (by decide), eY], by rw [eZ, nY 150 (by decide)], fun a a1 a2 => by rw [nZ a a1, nY a a2]⟩⟩)
  · rw [nY 142 (by decide)] at c
    exact Tr_ret ⟨gY, nY 142 (by decide), fun z => absurd z c⟩
theorem R_ruE {T : Int → Int} {n N b k k0 kd ev pc wy st : Int} {s : GS} {R : PR} {V : ASt} (hb : b = 0 ∨ b = 1) (hL : lstK T n N) (hX : LX T n V) (h30 : V 142 30 = b) (hB : gmB b s V) (hs : gsO s k0) (hk0 : k0 ≤ k) (hl : s.2.2.2.length < 12) (h : St T n N (RH (12 * b + s.2.2.2.length) kd ev pc wy st V) k R (ruE (tkK T n) s kd ev k pc wy st) V) :
    Tr (b_M_rule_0_J157 S0 V 142 (12 * b + s.2.2.2.length)) (fun _ U => fB b V U ∧ SR T n N b R U) := by
  have hn := hX.2.1
  have hC := mCX_t hn hL
  have hNn := hL.2.1
  unfold b_M_rule_0_J157
  have hF : ∀ z, ruE (tkK T n) s kd ev z pc wy st = tkw (tkK T n) 270 z (fun k3 => tsS (tkK T n) (nsG s) k3 (fun k4 w c => Sum.inr (k4, addR s (kd, ev, pc, wy, st, w, c)))) := fun z => rfl
  rw [hF] at h
  refine Tr_bnd (D_mustW (i := 14) (t := 270) hL hX (by decide) (by decide) (by decide) h) ?_
  rintro _ U ⟨fU, hS⟩
  rw [F_142_25, A_156, gd_in (by omega) (by omega)]
  refine Tr_set (fun V1 e1 n1 => ?_)
  have g1 : fB b V V1 := fB_tr (fB_A fU) (fB_s (by decide) (by unfold oB; omega) e1 n1)
  have hS1 := St_k (U := V1) hS (fun j _ _ => by rw [n1 142 (by decide)])
  have hB1 : gmB b s V1 := gB_x (gB_A hB fU) (by decide) e1 n1
  have v30 : V1 142 30 = b := by rw [fB_30 g1]; exact h30
  refine Tr_if (fun c8 => ?_) (fun c8 => ?_)
  · rcases hS1 with ⟨hH, hk1, r1, hR⟩ | ⟨q, p, -, q2, q3, -⟩
    · have hlen := hs.2.2.2.2.2.2.1
      have h9 : (ps (tkK T n) (nsG s) 30000 0 (k + 1) 0).1 ≠ 9 := ps_fuel hC.1 30000 0 (k + 1) 0 hk1.2 (by rw [show rkN 0 = 8 from rfl]; omega)
      refine Tr_bnd (M_reads (ns := nsG s) (cs := cwR s.2.2.2) (m := 30000) hb hL hC hk1 (by omega) h9 (LX_B hX g1) r1 c8 v30 hB1.2.2.2.2.2.2 hB1.2.1) ?_
      rintro _ W ⟨fW, pW⟩
      have w30 : W 142 30 = b := by rw [fB_30 (fB_V fW)]; exact v30
      have w150 : W 150 b = s.2.2.2.length := by rw [fW.1 150 (by decide) (by decide)]; exact hB1.2.2.2.2.1
      refine Tr_mono (R_186 (m := (s.2.2.2.length : Int)) hb w30 (by omega) w150) ?_
      rintro _ Z ⟨gZ, z142, hZ⟩
      refine ⟨fB_tr g1 (fB_tr (fB_V fW) gZ), ?_⟩
      unfold tsS at hR
      rcases pW with ⟨a1, a2, a3, a4, a5⟩ | ⟨a1, a2, a3, a4⟩ | ⟨a1, a3, a4⟩
      · rw [if_pos a1] at hR
        have hv := ps_adv (ns := nsG s) hC.1 30000 0 (k + 1) 0 hk1.2 a1
        refine Or.inl ⟨_, _, hR, ⟨by omega, hv.2.1⟩, ?_, fun _ => ?_⟩
        · unfold rKt rTk at *
          rw [z142]; exact a4
        · obtain ⟨z1, z2, z3⟩ := hZ a3
          have eo : ∀ a, 144 ≤ a → a ≤ 157 → a ≠ 150 → a ≠ 157 → a ≠ 156 → Z a = V a := fun a x1 x2 x3 x4 x5 => by rw [z3 a x3 x4, fW.1 a (by omega) (by omega), n1 a x5, fU.1 a (by omega)]
          refine gmB_r hB (RH_k hH (fun a x1 x2 => eo a (by omega) (by omega) (by omega) (by omega) (by omega))) ?_ ?_ ?_ ?_ (fun a x1 x2 => eo a x1 (by omega) (by omega) (by omega) (by omega)) (fun a i x1 x2 x3 => ?_)
          · rw [z3 156 (by decide) (by decide), fW.1 156 (by decide) (by decide), e1, upI_s, fU.2 29 (by omega)]
            exact hB.2.2.2.2.2.2.1
          · rw [z1, upI_s]; exact a5.1
          · rw [z2, upI_s]
          · unfold cdR at *
            rw [z142, z3 158 (by decide) (by decide), z3 159 (by decide) (by decide)]
            exact a5
          · by_cases y7 : a = 157
            · rw [y7, z1, upI_n _ _ x3, fW.1 157 (by decide) (by decide), n1 157 (by decide), fU.1 157 (by decide)]
            · rw [z3 a (by omega) y7, fW.1 a (by omega) (by omega)]
              by_cases y6 : a = 156
              · rw [y6, e1, upI_n _ _ x3, fU.1 156 (by decide)]
              · rw [n1 a y6, fU.1 a (by omega)]
      · rw [if_pos a1] at hR
        have hv := ps_adv (ns := nsG s) hC.1 30000 0 (k + 1) 0 hk1.2 a1
        refine Or.inl ⟨_, _, hR, ⟨by omega, hv.2.1⟩, ⟨Or.inl ⟨a2, by rw [z142]; exact a3, by rw [z142]; exact a4⟩, fun z => by rw [z142] at z; omega⟩, fun z => ?_⟩
        rw [z142] at z; omega
      · rw [if_neg a1] at hR
        refine Or.inr ⟨_, _, hR, ?_, by rw [z142]; exact a3, by rw [z142]; exact a4⟩
        have := ps_nn (K := tkK T n) (ns := nsG s) 30000 0 (k + 1) 0
        omega
    · omega
  · have w150 : V1 150 b = s.2.2.2.length := hB1.2.2.2.2.1
    refine Tr_mono (R_186 (m := (s.2.2.2.length : Int)) hb v30 (by omega) w150) ?_
    rintro _ Z ⟨gZ, z142, -⟩
    refine ⟨fB_tr g1 gZ, Or.inr ?_⟩
    rcases hS1 with ⟨-, hk1, r1, hR⟩ | hq
    · obtain ⟨q1, q2, q3⟩ := rKt_h r1 c8
      exact ⟨1, (tkK T n).2.1 (k + 1), by rw [hR]; exact tsS_b (kH_1 q3), by decide, by rw [z142]; exact q1, by rw [z142]; exact q2⟩
    · exact Flt_k hq (by rw [z142]) (by rw [z142])
/-- only the head of the rule i is changed, and what looking ahead sets -/
def fM (i : Int) (V U : ASt) : Prop := (∀ a, a ≠ 142 → a ≠ 152 → a ≠ 153 → a ≠ 154 → U a = V a) ∧ (∀ k, (k < 3 ∨ 9 < k) → U 142 k = V 142 k) ∧ (∀ a j, 152 ≤ a → a ≤ 154 → j ≠ i → U a j = V a j)
theorem fM_tr {i : Int} {V U W : ASt} (h : fM i V U) (h2 : fM i U W) : fM i V W := ⟨fun a a1 a2 a3 a4 => by rw [h2.1 a a1 a2 a3 a4, h.1 a a1 a2 a3 a4], fun k hk => by rw [h2.2.1 k hk, h.2.1 k hk], fun a j a1 a2 a3 => by rw [h2.2.2 a j a1 a2 a3, h.2.2 a j a1 a2 a3]⟩
theorem fM_A {i : Int} {V U : ASt} (h : frA V U) : fM i V U := ⟨fun a a1 _ _ _ => h.1 a a1, h.2, fun a j a1 a2 _ => by rw [h.1 a (by omega)]⟩
theorem fM_s {i a x : Int} {V U : ASt} (ha : 152 ≤ a ∧ a ≤ 154) (e : U a = upI (V a) i x) (n : ∀ c, c ≠ a → U c = V c) : fM i V U := ⟨fun c _ c2 c3 c4 => n c (by omega), fun k _ => by rw [n 142 (by omega)], fun c j _ _ hj => by
  by_cases z : c = a
  · rw [z, e, upI_n _ _ hj]
  · rw [n c z]⟩
theorem fM_B {b i : Int} {V U : ASt} (hi : 12 * b ≤ i ∧ i < 12 * b + 12) (h : fM i V U) : fB b V U := ⟨fun a a1 a2 => h.1 a a1 (by omega) (by omega) (by omega), fun k a1 _ _ _ _ _ => h.2.1 k a1, fun a j hj => by
  unfold oB at hj
  by_cases c : 152 ≤ a ∧ a ≤ 154
  · exact h.2.2 a j c.1 c.2 (by omega)
  · rw [h.1 a (by omega) (by omega) (by omega) (by omega)]⟩
theorem gB_M {b : Int} {s : GS} {V U : ASt} (h : gmB b s V) (f : fM (12 * b + s.2.2.2.length) V U) : gmB b s U := by
  have hr : ∀ c (i : Nat), 151 ≤ c → c ≤ 157 → i < s.2.2.2.length → U c (12 * b + (i : Int)) = V c (12 * b + (i : Int)) := by
    intro c i c1 c2 hi
    by_cases z : 152 ≤ c ∧ c ≤ 154
    · exact f.2.2 c _ z.1 z.2 (by omega)
    · rw [f.1 c (by omega) (by omega) (by omega) (by omega)]
  obtain ⟨g1, g2, g5, g6, g7, g8, g9⟩ := h
  unfold gmB nmR cdR at *
  rw [f.2.1 29 (by omega), f.1 144 (by decide) (by decide) (by decide) (by decide), f.1 145 (by decide) (by decide) (by decide) (by decide), f.1 146 (by decide) (by decide) (by decide) (by decide), f.1 147 (by decide) (by decide) (by decide) (by decide), f.1 148 (by decide) (by decide) (by decide) (by decide), f.1 149 (by decide) (by decide) (by decide) (by decide), f.1 150 (by decide) (by decide) (by decide) (by decide), f.1 158 (by decide) (by decide) (by decide) (by decide), f.1 159 (by decide) (by decide) (by decide) (by decide)]
  refine ⟨g1, g2, g5, g6, g7, fun i hi => ?_, g9⟩
  rw [hr 151 i (by decide) (by decide) hi, hr 152 i (by decide) (by decide) hi, hr 153 i (by decide) (by decide) hi, hr 154 i (by decide) (by decide) hi, hr 155 i (by decide) (by decide) hi, hr 156 i (by decide) (by decide) hi, hr 157 i (by decide) (by decide) hi]
  exact g8 i hi
theorem R_moves {T : Int → Int} {n N b k i : Int} {ns : List (List Int)} {R : PR} {f : Int → Int → Int → Int → PR} {V : ASt} (hb : b = 0 ∨ b = 1) (hL : lstK T n N) (hX : LX T n V) (h30 : V 142 30 = b) (hnm : nmR b ns V) (hi : 12 * b ≤ i ∧ i < 12 * b + 12) (h154 : V 154 i = 0) (h : St T n N True k R (ask (tkK T n) ns k (fun k2 pc => mvE (tkK T n) k2 pc f)) V) :
    Tr (f_M_moves S0 V 142 i) (fun _ U => fM i V U ∧ ∃ k3 pc wy st, k ≤ k3 ∧ St T n N (U 152 i = pc ∧ U 153 i = wy ∧ U 154 i = st) k3 R (f k3 pc wy st) U) := by
  unfold f_M_moves
  rw [gd_t O_142, F_142_21, F_142_22]
  refine Tr_bnd (D_asked hb hL hX h30 hnm h) ?_
  rintro y U ⟨fU, hU⟩
  rw [A_152, gd_in (by omega) (by omega)]
  refine Tr_set (fun V1 e1 n1 => ?_)
  have g1 : fM i V V1 := fM_tr (fM_A fU) (fM_s (by decide) e1 n1)
  rcases hU with ⟨u8, -, hk1, rU, hR⟩ | ⟨⟨z, hz⟩, u8⟩
  · have v8 : V1 142 8 = 0 := by rw [n1 142 (by decide)]; exact u8
    have r1 : rKt T n (k + 1) V1 := by
      unfold rKt rTk at *
      rw [n1 142 (by decide)]; exact rU
    refine Tr_t (by omega) ?_
    have hW := K_word r1 v8
    have hwr := wayT_r ((tkK T n).1 (k + 1))
    have j66 : ∀ x : Int, wayT ((tkK T n).1 (k + 1)) = x → Tr (b_M_moves_J66 S0 V1 142 i 153 i x) (fun _ U => fM i V U ∧ ∃ k3 pc wy st, k ≤ k3 ∧ St T n N (U 152 i = pc ∧ U 153 i = wy ∧ U 154 i = st) k3 R (f k3 pc wy st) U) := by
      intro x hx
      unfold b_M_moves_J66
      rw [F_142_22, A_153, gd_in (by omega) (by omega)]
      refine Tr_set (fun V2 e2 n2 => ?_)
      have g2 : fM i V V2 := fM_tr g1 (fM_s (by decide) e2 n2)
      have v28 : V2 142 8 = 0 := by rw [n2 142 (by decide)]; exact v8
      have r2 : rKt T n (k + 1) V2 := by
        unfold rKt rTk at *
        rw [n2 142 (by decide)]; exact r1
      rw [gd_in (by omega) (by omega), e2, upI_s]
      refine Tr_if (fun c => ?_) (fun c => ?_)
      · refine Tr_bnd (M_blame V2 1 (V2 142 4)) ?_
        rintro _ W ⟨u1, -, u3, -⟩
        have u3' := u3 (by omega)
        unfold b_M_moves_J86
        refine Tr_f (by omega) (Tr_ret ⟨fM_tr g2 (fM_A u1), k, 0, 0, 0, Int.le_refl _, Or.inr ⟨1, (tkK T n).2.1 (k + 1), ?_, by decide, u3'.1, by rw [u3'.2]; exact (rKt_K r2 v28).2.1⟩⟩)
        rw [hR]
        unfold mvE
        rw [if_pos (by omega)]
      · have hkN : k + 1 < N := K_lt hL hk1.2 (by omega) (by omega)
        unfold b_M_moves_J86
        refine Tr_t (by omega) (Tr_bnd (M_next (LX_c hX (g2.2.1 2 (by omega)) (g2.1 143 (by decide) (by decide) (by decide) (by decide))) hL ⟨hk1.1, hkN⟩ r2 v28) ?_)
        rintro _ W ⟨w1, w2⟩
        have g3 : fM i V W := fM_tr g2 (fM_A w1)
        have w153 : W 153 i = x := by rw [w1.1 153 (by decide), e2, upI_s]
        have w152 : W 152 i = y := by rw [w1.1 152 (by decide), n2 152 (by decide), e1, upI_s]
        have w154 : W 154 i = 0 := by rw [w1.1 154 (by decide), n2 154 (by decide), n1 154 (by decide), fU.1 154 (by decide)]; exact h154
        unfold mvE at hR
        rw [if_neg (by omega)] at hR
        rw [F_142_22, F_142_23, A_153, gd_in (by omega) (by omega), w153]
        refine Tr_if (fun d => ?_) (fun d => ?_)
        · rw [if_pos (by omega)] at hR
          exact Tr_ret ⟨g3, k + 1 + 1, y, 2, 0, by omega, Or.inl ⟨⟨w152, by rw [w153]; exact d, w154⟩, ⟨by omega, by omega⟩, w2, hR⟩⟩
        · rw [if_neg (by omega)] at hR
          have S1 : St T n N True (k + 1 + 1) R (nmb (tkK T n) 1 3 (k + 1 + 1) (fun k3 v => f k3 y (wayT ((tkK T n).1 (k + 1))) v)) W := Or.inl ⟨trivial, ⟨by omega, by omega⟩, w2, hR⟩
          refine Tr_bnd (D_num hL (LX_c hX (g3.2.1 2 (by omega)) (g3.1 143 (by decide) (by decide) (by decide) (by decide))) S1) ?_
          rintro v X ⟨x1, x2⟩
          rw [A_154, gd_in (by omega) (by omega)]
          refine Tr_set (fun Y eY nY => Tr_ret ⟨fM_tr g3 (fM_tr (fM_A x1) (fM_s (by decide) eY nY)), k + 1 + 1 + 1, y, wayT ((tkK T n).1 (k + 1)), v, by omega, ?_⟩)
          refine St_P (St_k x2 (fun j _ _ => by rw [nY 142 (by decide)])) (fun _ => ⟨?_, ?_, ?_⟩)
          · rw [nY 152 (by decide), x1.1 152 (by decide)]; exact w152
          · rw [nY 153 (by decide), x1.1 153 (by decide), w153, hx]
          · rw [eY, upI_s]
    refine Tr_bq (hW 11 30064 267 (by decide) (by decide) (by decide)) ?_
    by_cases c1 : (tkK T n).1 (k + 1) = 267
    · rw [if_pos c1]
      exact Tr_f (by decide) (j66 0 (by unfold wayT; rw [if_pos c1]))
    rw [if_neg c1]
    refine Tr_t rfl (Tr_bq (hW 12 1685026670 268 (by decide) (by decide) (by decide)) ?_)
    by_cases c2 : (tkK T n).1 (k + 1) = 268
    · rw [if_pos c2]
      exact Tr_f (by decide) (j66 1 (by unfold wayT; rw [if_neg c1, if_pos c2]))
    rw [if_neg c2]
    refine Tr_t rfl (Tr_bq (hW 13 7300710 269 (by decide) (by decide) (by decide)) ?_)
    by_cases c3 : (tkK T n).1 (k + 1) = 269
    · rw [if_pos c3]
      exact Tr_f (by decide) (j66 2 (by unfold wayT; rw [if_neg c1, if_neg c2, if_pos c3]))
    rw [if_neg c3]
    exact Tr_t rfl (j66 (-1) (by unfold wayT; rw [if_neg c1, if_neg c2, if_neg c3]))
  · rcases St_n hz mvE_b with ⟨z8, -⟩ | ⟨z8, zF⟩
    · exact absurd z8 u8
    · refine Tr_f (by rw [n1 142 (by decide)]; omega) (Tr_ret ⟨g1, k, 0, 0, 0, Int.le_refl _, Or.inr (Flt_k zF (by rw [n1 142 (by decide)]) (by rw [n1 142 (by decide)]))⟩)
