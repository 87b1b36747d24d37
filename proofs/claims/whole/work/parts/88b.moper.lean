/-! the reference's cells hold the machine: an operand -/
theorem M_pushes {V : ASt} {d kq : Int} (h36 : V 142 36 = d) (hd : 0 ≤ d ∧ d < 20) : Tr (f_M_pushes S0 V 142 kq) (fun _ U => U 160 = upI (V 160) d kq ∧ U 161 = upI (V 161) d 0 ∧ U 162 = upI (V 162) d 1 ∧ U 163 = V 163 ∧ U 164 = upI (V 164) d (V 142 39) ∧ U 142 = upI (V 142) 36 (d + 1) ∧ ∀ a, a ≠ 142 → (a < 160 ∨ 164 < a) → U a = V a) := by
  unfold f_M_pushes
  rw [gd_t O_142, F_142_31, F_142_32, F_142_33, F_142_35, h36, A_160, gd_in (by omega) (by omega)]
  refine Tr_set (fun V1 e1 n1 => ?_)
  rw [n1 142 (by decide), h36, A_161, gd_in (by omega) (by omega)]
  refine Tr_set (fun V2 e2 n2 => ?_)
  rw [n2 142 (by decide), n1 142 (by decide), h36, A_162, gd_in (by omega) (by omega)]
  refine Tr_set (fun V3 e3 n3 => ?_)
  rw [n3 142 (by decide), n2 142 (by decide), n1 142 (by decide), h36, A_164, gd_in (by omega) (by omega)]
  refine Tr_set (fun V4 e4 n4 => ?_)
  rw [n4 142 (by decide), n3 142 (by decide), n2 142 (by decide), n1 142 (by decide), h36, w32_id (x := d + 1) (by omega) (by omega)]
  refine Tr_set (fun U e5 n5 => Tr_ret ⟨?_, ?_, ?_, ?_, ?_, ?_, fun a a1 a2 => ?_⟩)
  · rw [n5 160 (by decide), n4 160 (by decide), n3 160 (by decide), n2 160 (by decide), e1]
  · rw [n5 161 (by decide), n4 161 (by decide), n3 161 (by decide), e2, n1 161 (by decide)]
  · rw [n5 162 (by decide), n4 162 (by decide), e3, n2 162 (by decide), n1 162 (by decide)]
  · rw [n5 163 (by decide), n4 163 (by decide), n3 163 (by decide), n2 163 (by decide), n1 163 (by decide)]
  · rw [n5 164 (by decide), e4, n3 164 (by decide), n2 164 (by decide), n1 164 (by decide)]
  · rw [e5, n4 142 (by decide), n3 142 (by decide), n2 142 (by decide), n1 142 (by decide)]
  · rw [n5 a a1, n4 a (by omega), n3 a (by omega), n2 a (by omega), n1 a (by omega)]
theorem M_opens {T : Int → Int} {n N b p kq : Int} {ns : List (List Int)} {fs : List FR} {os : List Int} {cs : CDs} {V : ASt} (hL : lstK T n N) (hp : 0 ≤ p ∧ p < N) (hr : rKt T n p V) (h : M1 T n b ns fs os cs V) (h8 : V 142 8 = 0) (hfs : (fs.length : Int) ≤ 9) : Tr (f_M_opens S0 V 142 kq) (fun _ U => fmV b V U ∧ (((fs.length : Int) = 9 ∧ U 142 8 = 5 ∧ U 142 9 = kP T n p) ∨ ((fs.length : Int) ≠ 9 ∧ rKt T n (p + 1) U ∧ U 142 36 = (fs.length : Int) + 1 ∧
    ∀ (pq : Int) (W : ASt), (∀ a, a ≠ 163 → W a = U a) → (∀ i, i ≠ (fs.length : Int) → W 163 i = U 163 i) → ((kq ≠ 3 ∧ kq ≠ 4) ∨ W 163 (fs.length : Int) = pq) → M1 T n b ns ((kq, 0, 1, pq, (os.length : Int)) :: fs) os cs W))) := by
  obtain ⟨g1, g2, g3, g4, g5, g6, g7, g8, g9⟩ := h
  have hc := rKt_c hr h8
  unfold f_M_opens
  rw [gd_t O_142]
  refine Tr_if (fun c => ?_) (fun c => ?_)
  · refine Tr_bnd (M_blame V 5 (V 142 4)) ?_
    rintro _ U ⟨u1, -, u3, -⟩
    have u3' := u3 (by omega)
    unfold b_M_opens_J18
    refine Tr_f (by omega) (Tr_ret ⟨fmV_A u1, Or.inl ⟨by omega, u3'.1, by rw [u3'.2]; exact hc.2.1⟩⟩)
  · unfold b_M_opens_J18
    refine Tr_t (by omega) ?_
    rw [g3, w32_id (x := (fs.length : Int) - 1 + 1) (by omega) (by omega)]
    refine Tr_set (fun V1 e1 n1 => ?_)
    have s1 : ∀ k, k ≠ 37 → V1 142 k = V 142 k := fun k hk => by rw [e1, upI_n _ _ hk]
    have t1 : fmT V V1 := fun j hj => s1 j (by omega)
    have X1 : LX T n V1 := ⟨by rw [s1 2 (by decide)]; exact g1.1, g1.2.1, fun i i0 i1 => by rw [n1 143 (by decide)]; exact g1.2.2 i i0 i1⟩
    refine Tr_bnd (M_next X1 hL hp (rKt_k hr t1) (by rw [s1 8 (by decide)]; exact h8)) ?_
    rintro _ V2 ⟨a2, r2⟩
    have d2 : V2 142 36 = (fs.length : Int) := by rw [a2.2 36 (by omega), s1 36 (by decide)]; exact g2
    refine Tr_bnd (M_pushes (kq := kq) d2 (by omega)) ?_
    rintro _ U ⟨u160, u161, u162, u163, u164, u142, uo⟩
    have s142 : ∀ k, (k < 3 ∨ 9 < k) → k ≠ 36 → k ≠ 37 → U 142 k = V 142 k := fun k k1 k2 k3 => by rw [u142, upI_n _ _ k2, a2.2 k k1, s1 k k3]
    have so : ∀ a, a ≠ 142 → (a < 160 ∨ 164 < a) → U a = V a := fun a a1 a2' => by rw [uo a a1 a2', a2.1 a a1, n1 a a1]
    have fr : fmV b V U := fmV_n (fun a a1 a2' => so a a1 (by omega)) (fun k k1 _ k3 k4 _ _ => s142 k k1 k3 k4)
    have e36 : U 142 36 = (fs.length : Int) + 1 := by rw [u142, upI_s]
    refine Tr_ret ⟨fr, Or.inr ⟨by omega, rKt_k r2 (fun j hj => by rw [u142, upI_n _ _ (by omega)]), e36, fun pq W w1 w2 w3 => ?_⟩⟩
    have hlow : ∀ a i : Int, 160 ≤ a → a ≤ 164 → 0 ≤ i → i < fs.length → W a i = V a i := by
      intro a i a1 a3 i0 i1
      have hU : U a i = V a i := by
        have hV : V2 a = V a := by rw [a2.1 a (by omega), n1 a (by omega)]
        have hz : a = 160 ∨ a = 161 ∨ a = 162 ∨ a = 163 ∨ a = 164 := by omega
        rcases hz with z | z | z | z | z
        · subst z; rw [u160, upI_n _ _ (by omega), hV]
        · subst z; rw [u161, upI_n _ _ (by omega), hV]
        · subst z; rw [u162, upI_n _ _ (by omega), hV]
        · subst z; rw [u163, hV]
        · subst z; rw [u164, upI_n _ _ (by omega), hV]
      by_cases z : a = 163
      · subst z; rw [w2 i (by omega)]; exact hU
      · rw [w1 a z]; exact hU
    have w142 : W 142 = U 142 := w1 142 (by decide)
    have e39 : V2 142 39 = (os.length : Int) := by rw [a2.2 39 (by omega), s1 39 (by decide)]; exact g4
    refine ⟨⟨?_, g1.2.1, fun i i0 i1 => ?_⟩, ?_, ?_, ?_, ?_, ⟨⟨?_, ?_, ?_, Or.inr rfl, fun z => ?_, ?_, ?_⟩, fmR_k fs hlow g6⟩, ⟨?_, fun i hi => ?_⟩, ?_, ?_⟩
    · rw [w142, s142 2 (by omega) (by decide) (by decide)]; exact g1.1
    · rw [w1 143 (by decide), so 143 (by decide) (by omega)]; exact g1.2.2 i i0 i1
    · rw [w142, e36, List.length_cons]; omega
    · rw [w142, u142, upI_n _ _ (by decide), a2.2 37 (by omega), e1, upI_s, List.length_cons]; omega
    · rw [w142, s142 39 (by omega) (by decide) (by decide)]; exact g4
    · rw [w1 165 (by decide), so 165 (by decide) (by omega)]; exact g5
    · rw [w1 160 (by decide), u160, upI_s]
    · rw [w1 161 (by decide), u161, upI_s]
    · rw [w1 162 (by decide), u162, upI_s]
    · rcases w3 with w3 | w3
      · exact absurd z (by omega)
      · exact w3
    · rw [w1 164 (by decide), u164, upI_s, e39]
    · show (0 : Int) ≤ (os.length : Int)
      omega
    · rw [w142, s142 29 (by omega) (by decide) (by decide)]; exact g7.1
    · rw [w1 158 (by decide), w1 159 (by decide), so 158 (by decide) (by omega), so 159 (by decide) (by omega)]; exact g7.2 i hi
    · rw [w142, s142 30 (by omega) (by decide) (by decide)]; exact g8
    · unfold nmR at *
      rw [w1 145 (by decide), w1 146 (by decide), so 145 (by decide) (by omega), so 146 (by decide) (by omega)]
      exact g9
theorem M_opens_f {V : ASt} {kq : Int} (h8 : 0 < V 142 8) : Tr (f_M_opens S0 V 142 kq) (fun _ U => frA V U ∧ U 142 8 = V 142 8 ∧ U 142 9 = V 142 9) := by
  unfold f_M_opens
  rw [gd_t O_142]
  refine Tr_if (fun c => ?_) (fun c => ?_)
  · refine Tr_bnd (M_blame V 5 (V 142 4)) ?_
    rintro _ U ⟨u1, -, -, u4⟩
    have u4' := u4 (by omega)
    unfold b_M_opens_J18
    exact Tr_f (by omega) (Tr_ret ⟨u1, u4'⟩)
  · unfold b_M_opens_J18
    exact Tr_f (by omega) (Tr_ret ⟨frA_rfl V, rfl, rfl⟩)
theorem M_isSign_a (V : ASt) (c : Int) : ∃ y, f_M_isSign S0 V 142 c = some (y, V) := by
  unfold f_M_isSign
  rw [gd_t O_142]
  by_cases h : V 142 3 = 3
  · rw [if_pos h]
    by_cases g : V 142 6 = c
    · rw [if_pos g]; exact ⟨_, rfl⟩
    · rw [if_neg g]; exact ⟨_, rfl⟩
  · rw [if_neg h]; exact ⟨_, rfl⟩
def PO (T : Int → Int) (n b : Int) (ns : List (List Int)) (V : ASt) (st : Option (MS ⊕ RS)) (x : Int) (U : ASt) : Prop := fmV b V U ∧ (x = 0 ∨ x = 1) ∧ ((∃ s : MS, st = some (Sum.inl s) ∧ M0 T n b ns s.1 s.2.2.1 s.2.2.2.1 s.2.2.2.2 U ∧ x = s.2.1) ∨ (∃ (q i : Int) (c : CDs), st = some (Sum.inr (q, i, c)) ∧ q ≠ 0 ∧ U 142 8 = q ∧ U 142 9 = i))
theorem PO_V {T : Int → Int} {n b : Int} {ns : List (List Int)} {V V1 : ASt} {st : Option (MS ⊕ RS)} {x : Int} {U : ASt} (f : fmV b V V1) (h : PO T n b ns V1 st x U) : PO T n b ns V st x U := ⟨fmV_tr f h.1, h.2⟩
theorem rKt_K {T : Int → Int} {n k : Int} {V : ASt} (h : rKt T n k V) (h8 : V 142 8 = 0) : kH T n k = 0 ∧ V 142 4 = (tkK T n).2.1 k ∧ (((tkK T n).1 k = 0 ∧ V 142 3 = 0) ∨ (((tkK T n).1 k = 2 ∨ 256 ≤ (tkK T n).1 k) ∧ V 142 3 = 1 ∧ V 142 6 = 0 ∧ V 142 7 = nm256 ((tkK T n).2.2.1 k) 0 ∧ nmL ((tkK T n).2.2.1 k)) ∨ ((tkK T n).1 k = 3 ∧ V 142 3 = 2 ∧ V 142 6 = (tkK T n).2.2.2 k) ∨ (sgn ((tkK T n).1 k) ∧ V 142 3 = 3) ∨ ((tkK T n).1 k = 1 ∧ V 142 3 = 3)) := by
  obtain ⟨a, b, -, d⟩ := rKt_c h h8
  refine ⟨a, b, ?_⟩
  rcases d with d | ⟨d1, d2, d3, d4, d5, -⟩ | ⟨d1, d2, d3, -⟩ | ⟨d1, d2, -⟩ | ⟨d1, d2, -⟩
  · exact Or.inl d
  · exact Or.inr (Or.inl ⟨d1, d2, d3, d4, d5⟩)
  · exact Or.inr (Or.inr (Or.inl ⟨d1, d2, d3⟩))
  · exact Or.inr (Or.inr (Or.inr (Or.inl ⟨d1, d2⟩)))
  · exact Or.inr (Or.inr (Or.inr (Or.inr ⟨d1, d2⟩)))
theorem K_sign {T : Int → Int} {n k : Int} {V : ASt} (h : rKt T n k V) (h8 : V 142 8 = 0) (c : Int) (hc : sgn c) : f_M_isSign S0 V 142 c = some (if (tkK T n).1 k = c then 1 else 0, V) := M_isSign h h8 hc
theorem K_word {T : Int → Int} {n k : Int} {V : ASt} (h : rKt T n k V) (h8 : V 142 8 = 0) (i : Nat) (x t : Int) (hi : i < 23) (hx : x = nm256 (ownW.getD i []) 0) (ht : t = 256 + (i : Int)) : f_M_isWord S0 V 142 x = some (if (tkK T n).1 k = t then 1 else 0, V) := by
  rw [ht]; exact M_isWord h h8 hi hx
theorem K_lt {T : Int → Int} {n N k : Int} (hL : lstK T n N) (hk : k ≤ N) (h0 : (tkK T n).1 k ≠ 0) (h1 : (tkK T n).1 k ≠ 1) : k < N := by
  have h2 : (tkK T n).1 N = 0 ∨ (tkK T n).1 N = 1 := hL.2.2.2
  by_cases z : k = N
  · subst z; omega
  · omega
def stL (K : TKs) (ns : List (List Int)) (k kd ph pr bs : Int) (r : List FR) (os : List Int) (cs : CDs) : Option (MS ⊕ RS) :=
  if K.1 k = 40 then opnS K k 2 0 kd ph pr bs r os cs
  else if K.1 k = 277 ∨ K.1 k = 278 then (if K.1 (k + 1) = 40 then opnS K (k + 1) 3 (if K.1 k = 277 then 15 else 16) kd ph pr bs r os cs else some (Sum.inr (1, K.2.1 (k + 1), cs)))
  else if K.1 k = 2 ∧ pixF (K.2.2.1 k) ns 0 = -1 then some (Sum.inr (3, K.2.1 k, cs))
  else if K.1 k = 3 ∨ K.1 k = 274 ∨ K.1 k = 275 ∨ K.1 k = 276 ∨ K.1 k = 2 then some (Sum.inl (k + 1, 1, (kd, ph, 0, pr, bs) :: r, os, cs ++ [leS K ns k]))
  else some (Sum.inr (1, K.2.1 k, cs))
/-- an opening bracket: what the machine says of it -/
theorem PO_opn {T : Int → Int} {n N b p kq pq kd ph pr bs : Int} {ns : List (List Int)} {r : List FR} {os : List Int} {cs : CDs} {V : ASt} (hL : lstK T n N) (hp : 0 ≤ p ∧ p < N) (hr : rKt T n p V) (h : M1 T n b ns ((kd, ph, 0, pr, bs) :: r) os cs V) (h8 : V 142 8 = 0) (hfs : (r.length : Int) ≤ 8) (hq : kq ≠ 3 ∧ kq ≠ 4) :
    Tr (bnd (f_M_opens S0 V 142 kq) (fun _ U => some (0, U))) (PO T n b ns V (opnS (tkK T n) p kq pq kd ph pr bs r os cs)) := by
  have hlen : ((((kd, ph, 0, pr, bs) :: r : List FR).length : Nat) : Int) = (r.length : Int) + 1 := by simp only [List.length_cons]; omega
  refine Tr_bnd (M_opens hL hp hr h h8 (by omega)) ?_
  rintro _ U ⟨f, hU⟩
  refine Tr_ret ⟨f, Or.inl rfl, ?_⟩
  unfold opnS
  rcases hU with ⟨a, b1, b2⟩ | ⟨a, b1, b2, b3⟩
  · rw [if_pos (by omega)]
    exact Or.inr ⟨5, _, _, rfl, by decide, b1, b2⟩
  · rw [if_neg (by omega)]
    exact Or.inl ⟨_, rfl, ⟨b1, fun _ => b3 pq U (fun _ _ => rfl) (fun _ _ => rfl) (Or.inl hq)⟩, rfl⟩
theorem M_O174 {T : Int → Int} {n N b k cc kd ph pr bs : Int} {ns : List (List Int)} {r : List FR} {os : List Int} {cs : CDs} {V : ASt} (hL : lstK T n N) (hk : 0 ≤ k ∧ k < N) (hr : rKt T n k V) (h : M1 T n b ns ((kd, ph, 0, pr, bs) :: r) os cs V) (h8 : V 142 8 = 0) (hfs : (r.length : Int) ≤ 8) :
    Tr (b_M_operand_J174 S0 V 142 cc) (PO T n b ns V (if (tkK T n).1 (k + 1) = 40 then opnS (tkK T n) (k + 1) 3 cc kd ph pr bs r os cs else some (Sum.inr (1, (tkK T n).2.1 (k + 1), cs)))) := by
  have hlen : ((((kd, ph, 0, pr, bs) :: r : List FR).length : Nat) : Int) = (r.length : Int) + 1 := by simp only [List.length_cons]; omega
  have bad : ∀ U : ASt, frA V U → U 142 8 = 1 → U 142 9 = (tkK T n).2.1 (k + 1) → (tkK T n).1 (k + 1) ≠ 40 → Tr (b_M_operand_J197 S0 U 142 cc) (PO T n b ns V (if (tkK T n).1 (k + 1) = 40 then opnS (tkK T n) (k + 1) 3 cc kd ph pr bs r os cs else some (Sum.inr (1, (tkK T n).2.1 (k + 1), cs)))) := by
    intro U f e8 e9 ne
    unfold b_M_operand_J197
    refine Tr_bnd (M_opens_f (V := U) (kq := 3) (by omega)) ?_
    rintro _ W ⟨w1, w2, w3⟩
    refine Tr_f (by omega) (Tr_ret ⟨fmV_A (frA_tr f w1), Or.inl rfl, ?_⟩)
    rw [if_neg ne]
    exact Or.inr ⟨1, _, _, rfl, by decide, by omega, by rw [w3, e9]⟩
  unfold b_M_operand_J174
  refine Tr_bnd (M_next h.1 hL hk hr h8) ?_
  rintro _ U ⟨f, rU⟩
  by_cases u8 : U 142 8 = 0
  · have hS := K_sign rU u8 40 (by decide)
    refine Tr_bq hS ?_
    by_cases c : (tkK T n).1 (k + 1) = 40
    · have hk1 : k + 1 < N := K_lt hL (by omega) (by omega) (by omega)
      rw [if_pos c, if_pos c]
      refine Tr_f (by decide) ?_
      unfold b_M_operand_J197
      refine Tr_bnd (M_opens (kq := 3) hL ⟨by omega, hk1⟩ rU (M1_A h f) u8 (by omega)) ?_
      rintro _ W ⟨fW, hW⟩
      have fW' := fmV_tr (fmV_A f) fW
      unfold opnS
      rcases hW with ⟨a, b1, b2⟩ | ⟨a, b1, b2, b3⟩
      · rw [if_pos (show (r.length : Int) = 8 by omega)]
        refine Tr_f (by omega) (Tr_ret ⟨fW', Or.inl rfl, Or.inr ⟨5, _, _, rfl, by decide, b1, b2⟩⟩)
      · rw [if_neg (show ¬ (r.length : Int) = 8 by omega)]
        refine Tr_if (fun z => ?_) (fun z => ?_)
        · rw [b2, hlen, w32_id (x := (r.length : Int) + 1 + 1 - 1) (by omega) (by omega), show (r.length : Int) + 1 + 1 - 1 = (r.length : Int) + 1 by omega, F_142_34, A_163, gd_in (by omega) (by omega)]
          refine Tr_set (fun X eX nX => Tr_ret ⟨fmV_tr fW' (fmV_n (fun a a1 a2 => nX a (by omega)) (fun k _ _ _ _ _ _ => by rw [nX 142 (by decide)])), Or.inl rfl, Or.inl ⟨_, rfl, ⟨rKt_k b1 (fun j _ => by rw [nX 142 (by decide)]), fun _ => b3 cc X nX (fun i hi => by rw [eX, upI_n _ _ (by omega)]) (Or.inr (by rw [eX, hlen, upI_s]))⟩, rfl⟩⟩)
        · exact Tr_ret ⟨fW', Or.inl rfl, Or.inl ⟨_, rfl, ⟨b1, fun y => absurd y z⟩, rfl⟩⟩
    · rw [if_neg c]
      refine Tr_t rfl (Tr_bnd (M_blame U 1 (U 142 4)) ?_)
      rintro _ W ⟨w1, -, w3, -⟩
      have w3' := w3 (by omega)
      exact bad W (frA_tr f w1) w3'.1 (by rw [w3'.2]; exact (rKt_K rU u8).2.1) c
  · obtain ⟨e8, e9, eH⟩ := rKt_h rU u8
    have ne : (tkK T n).1 (k + 1) ≠ 40 := fun z => by
      have h1 : (tkK T n).1 (k + 1) = 1 := kH_1 eH
      omega
    obtain ⟨y, hy⟩ := M_isSign_a U 40
    refine Tr_bq hy (Tr_if (fun _ => ?_) (fun _ => bad U f e8 e9 ne))
    refine Tr_bnd (M_blame U 1 (U 142 4)) ?_
    rintro _ W ⟨w1, -, -, w4⟩
    have w4' := w4 (by omega)
    exact bad W (frA_tr f w1) (by rw [w4'.1]; exact e8) (by rw [w4'.2]; exact e9) ne
theorem M_O121 {T : Int → Int} {n N b k kd ph pr bs : Int} {ns : List (List Int)} {r : List FR} {os : List Int} {cs : CDs} {V : ASt} (hb : b = 0 ∨ b = 1) (hL : lstK T n N) (hk : 0 ≤ k ∧ k ≤ N) (hr : rKt T n k V) (h : M1 T n b ns ((kd, ph, 0, pr, bs) :: r) os cs V) (h8 : V 142 8 = 0) (hfs : (r.length : Int) ≤ 8) (hcs : (cs.length : Int) ≤ k) :
    Tr (b_M_operand_J121 S0 V 142) (PO T n b ns V (stL (tkK T n) ns k kd ph pr bs r os cs)) := by
  have hn := h.1.2.1
  have hNn := hL.2.1
  obtain ⟨-, hP4, hD⟩ := rKt_K hr h8
  have hS := K_sign hr h8
  have hW := K_word hr h8
  have bad : (tkK T n).1 k ≠ 40 → ¬ ((tkK T n).1 k = 277 ∨ (tkK T n).1 k = 278) → ¬ ((tkK T n).1 k = 3 ∨ (tkK T n).1 k = 274 ∨ (tkK T n).1 k = 275 ∨ (tkK T n).1 k = 276 ∨ (tkK T n).1 k = 2) → Tr (b_M_operand_J359 S0 V 142 (-1)) (PO T n b ns V (stL (tkK T n) ns k kd ph pr bs r os cs)) := by
    intro c1 c2 c3
    have e : stL (tkK T n) ns k kd ph pr bs r os cs = some (Sum.inr (1, (tkK T n).2.1 k, cs)) := by
      unfold stL
      rw [if_neg c1, if_neg c2, if_neg (fun z => c3 (by omega)), if_neg c3]
    unfold b_M_operand_J359
    refine Tr_t rfl (Tr_bnd (M_blame V 1 (V 142 4)) ?_)
    rintro _ U ⟨u1, -, u3, -⟩
    have u3' := u3 (by omega)
    unfold b_M_operand_J373
    refine Tr_f (by omega) (Tr_ret ⟨fmV_A u1, Or.inr rfl, Or.inr ⟨1, _, _, e, by decide, u3'.1, by rw [u3'.2]; exact hP4⟩⟩)
  have good : ∀ x : Int, x ≠ -1 → (tkK T n).1 k ≠ 40 → ¬ ((tkK T n).1 k = 277 ∨ (tkK T n).1 k = 278) → ¬ ((tkK T n).1 k = 2 ∧ pixF ((tkK T n).2.2.1 k) ns 0 = -1) → ((tkK T n).1 k = 3 ∨ (tkK T n).1 k = 274 ∨ (tkK T n).1 k = 275 ∨ (tkK T n).1 k = 276 ∨ (tkK T n).1 k = 2) → leS (tkK T n) ns k = (x, V 142 6) → Tr (b_M_operand_J359 S0 V 142 x) (PO T n b ns V (stL (tkK T n) ns k kd ph pr bs r os cs)) := by
    intro x x1 c1 c2 c3 c4 c5
    have hkN : k < N := K_lt hL hk.2 (by omega) (by omega)
    have e : stL (tkK T n) ns k kd ph pr bs r os cs = some (Sum.inl (k + 1, 1, (kd, ph, 0, pr, bs) :: r, os, cs ++ [(x, V 142 6)])) := by
      unfold stL
      rw [if_neg c1, if_neg c2, if_neg c3, if_pos c4, c5]
    unfold b_M_operand_J359
    refine Tr_f x1 ?_
    unfold b_M_operand_J373
    refine Tr_t (by omega) (Tr_bnd (M_add (x := x) (v := V 142 6) hb h (by omega)) ?_)
    rintro _ U ⟨u1, u2, u3, -⟩
    refine Tr_bnd (M_next u1.1 hL ⟨hk.1, hkN⟩ (rKt_k hr u3) (by rw [u3 8 (by omega)]; exact h8)) ?_
    rintro _ W ⟨w1, w2⟩
    exact Tr_ret ⟨fmV_tr u2 (fmV_A w1), Or.inr rfl, Or.inl ⟨_, e, ⟨w2, fun _ => M1_A u1 w1⟩, rfl⟩⟩
  have sorted : ∀ x : Int, 0 ≤ x → Tr (b_M_operand_J359 S0 V 142 x) (PO T n b ns V (stL (tkK T n) ns k kd ph pr bs r os cs)) → Tr (b_M_operand_J278 S0 V 142 x) (PO T n b ns V (stL (tkK T n) ns k kd ph pr bs r os cs)) := by
    intro x x0 hx
    unfold b_M_operand_J278
    refine Tr_f (by omega) ?_
    unfold b_M_operand_J308
    refine Tr_t rfl ?_
    unfold b_M_operand_J336
    exact Tr_t rfl hx
  have none0 : Tr (b_M_operand_J359 S0 V 142 (-1)) (PO T n b ns V (stL (tkK T n) ns k kd ph pr bs r os cs)) → Tr (b_M_operand_J308 S0 V 142 (-1) 0) (PO T n b ns V (stL (tkK T n) ns k kd ph pr bs r os cs)) := by
    intro hx
    unfold b_M_operand_J308
    refine Tr_t rfl ?_
    unfold b_M_operand_J336
    exact Tr_t rfl hx
  unfold b_M_operand_J121
  refine Tr_bq (hS 40 (by decide)) ?_
  by_cases c : (tkK T n).1 k = 40
  · rw [if_pos c]
    refine Tr_f (by decide) ?_
    have e : stL (tkK T n) ns k kd ph pr bs r os cs = opnS (tkK T n) k 2 0 kd ph pr bs r os cs := by unfold stL; rw [if_pos c]
    rw [e]
    exact PO_opn hL ⟨hk.1, K_lt hL hk.2 (by omega) (by omega)⟩ hr h h8 hfs (by decide)
  rw [if_neg c]
  refine Tr_t rfl (Tr_bq (hW 21 7170414 277 (by decide) (by decide) (by decide)) ?_)
  have pair : ∀ cc : Int, ((tkK T n).1 k = 277 ∧ cc = 15 ∨ (tkK T n).1 k = 278 ∧ cc = 16) → Tr (b_M_operand_J174 S0 V 142 cc) (PO T n b ns V (stL (tkK T n) ns k kd ph pr bs r os cs)) := by
    intro cc hcc
    have e : stL (tkK T n) ns k kd ph pr bs r os cs = if (tkK T n).1 (k + 1) = 40 then opnS (tkK T n) (k + 1) 3 cc kd ph pr bs r os cs else some (Sum.inr (1, (tkK T n).2.1 (k + 1), cs)) := by
      unfold stL
      rw [if_neg c, if_pos (by omega)]
      have : (if (tkK T n).1 k = 277 then (15 : Int) else 16) = cc := by
        by_cases z : (tkK T n).1 k = 277
        · rw [if_pos z]; omega
        · rw [if_neg z]; omega
      rw [this]
    rw [e]
    exact M_O174 hL ⟨hk.1, K_lt hL hk.2 (by omega) (by omega)⟩ hr h h8 hfs
  by_cases c1 : (tkK T n).1 k = 277
  · rw [if_pos c1]
    refine Tr_f (by decide) ?_
    unfold b_M_operand_J157
    refine Tr_bq (hW 21 7170414 277 (by decide) (by decide) (by decide)) ?_
    rw [if_pos c1]
    exact Tr_f (by decide) (pair 15 (Or.inl ⟨c1, rfl⟩))
  rw [if_neg c1]
  refine Tr_t rfl (Tr_bq (hW 22 7168376 278 (by decide) (by decide) (by decide)) ?_)
  by_cases c2 : (tkK T n).1 k = 278
  · rw [if_pos c2]
    refine Tr_f (by decide) ?_
    unfold b_M_operand_J157
    refine Tr_bq (hW 21 7170414 277 (by decide) (by decide) (by decide)) ?_
    rw [if_neg c1]
    exact Tr_t rfl (pair 16 (Or.inr ⟨c2, rfl⟩))
  rw [if_neg c2]
  have c12 : ¬ ((tkK T n).1 k = 277 ∨ (tkK T n).1 k = 278) := by omega
  refine Tr_t rfl (Tr_if (fun z => ?_) (fun z => ?_))
  · rcases hD with ⟨_, d⟩ | ⟨_, d, _⟩ | ⟨d1, d2, d3⟩ | ⟨_, d⟩ | ⟨_, d⟩
    · omega
    · omega
    · exact sorted 0 (by decide) (good 0 (by decide) c c12 (fun y => by omega) (by omega) (by unfold leS; rw [if_pos d1, d3]))
    · omega
    · omega
  have n3 : (tkK T n).1 k ≠ 3 := fun y => by
    rcases hD with ⟨d, _⟩ | ⟨d, _⟩ | ⟨_, d, _⟩ | ⟨d, _⟩ | ⟨d, _⟩
    · omega
    · omega
    · omega
    · unfold sgn at d; omega
    · omega
  have w6 : (tkK T n).1 k = 2 ∨ 256 ≤ (tkK T n).1 k → V 142 6 = 0 ∧ V 142 3 = 1 ∧ V 142 7 = nm256 ((tkK T n).2.2.1 k) 0 ∧ nmL ((tkK T n).2.2.1 k) := fun y => by
    rcases hD with ⟨d, _⟩ | ⟨_, d2, d3, d4, d5⟩ | ⟨d, _⟩ | ⟨d, _⟩ | ⟨d, _⟩
    · omega
    · exact ⟨d3, d2, d4, d5⟩
    · omega
    · unfold sgn at d; omega
    · omega
  refine Tr_bq (hW 18 1936748404 274 (by decide) (by decide) (by decide)) ?_
  by_cases c4 : (tkK T n).1 k = 274
  · rw [if_pos c4]
    exact Tr_f (by decide) (sorted 1 (by decide) (good 1 (by decide) c c12 (fun y => by omega) (by omega) (by unfold leS; rw [if_neg n3, if_pos c4, (w6 (by omega)).1])))
  rw [if_neg c4]
  refine Tr_t rfl (Tr_bq (hW 19 1735352684 275 (by decide) (by decide) (by decide)) ?_)
  by_cases c5 : (tkK T n).1 k = 275
  · rw [if_pos c5]
    exact Tr_f (by decide) (sorted 2 (by decide) (good 2 (by decide) c c12 (fun y => by omega) (by omega) (by unfold leS; rw [if_neg n3, if_neg c4, if_pos c5, (w6 (by omega)).1])))
  rw [if_neg c5]
  refine Tr_t rfl (Tr_bq (hW 20 7825519 276 (by decide) (by decide) (by decide)) ?_)
  by_cases c6 : (tkK T n).1 k = 276
  · rw [if_pos c6]
    exact Tr_f (by decide) (sorted 3 (by decide) (good 3 (by decide) c c12 (fun y => by omega) (by omega) (by unfold leS; rw [if_neg n3, if_neg c4, if_neg c5, if_pos c6, (w6 (by omega)).1])))
  rw [if_neg c6]
  refine Tr_t rfl ?_
  unfold b_M_operand_J278
  refine Tr_t rfl (Tr_if (fun z1 => ?_) (fun z1 => ?_))
  · have hown : f_M_isOwn S0 V 142 (V 142 7) = some (if (tkK T n).1 k = 2 then 0 else 1, V) := M_isOwn hr h8 z1
    refine Tr_bq hown ?_
    by_cases c7 : (tkK T n).1 k = 2
    · rw [if_pos c7]
      obtain ⟨q1, q2, q3, q4⟩ := w6 (Or.inl c7)
      have hnm := M_named hb h.2.2.2.2.2.2.2.1 h.2.2.2.2.2.2.2.2 q4
      refine Tr_t rfl ?_
      unfold b_M_operand_J308
      refine Tr_f (by decide) ?_
      rw [q3]
      refine Tr_bq hnm ?_
      by_cases d : pixF ((tkK T n).2.2.1 k) ns 0 = -1
      · have e : stL (tkK T n) ns k kd ph pr bs r os cs = some (Sum.inr (3, (tkK T n).2.1 k, cs)) := by
          unfold stL
          rw [if_neg c, if_neg c12, if_pos ⟨c7, d⟩]
        refine Tr_t d (Tr_bnd (M_blame V 3 (V 142 4)) ?_)
        rintro _ U ⟨u1, -, u3, -⟩
        have u3' := u3 (by omega)
        unfold b_M_operand_J336
        refine Tr_f (by decide) (Tr_f (by omega) ?_)
        unfold b_M_operand_J359
        refine Tr_t rfl (Tr_bnd (M_blame U 1 (U 142 4)) ?_)
        rintro _ W ⟨w1, -, -, w4⟩
        have w4' := w4 (by omega)
        unfold b_M_operand_J373
        exact Tr_f (by omega) (Tr_ret ⟨fmV_A (frA_tr u1 w1), Or.inr rfl, Or.inr ⟨3, _, _, e, by decide, by omega, by rw [w4'.2, u3'.2]; exact hP4⟩⟩)
      · have hpr := pixF_r ((tkK T n).2.2.1 k) ns 0
        have hns := h.2.2.2.2.2.2.2.2.2.1
        refine Tr_f d ?_
        unfold b_M_operand_J336
        refine Tr_f (by decide) (Tr_t h8 ?_)
        rw [q3]
        refine Tr_bq hnm ?_
        rw [w32_id (x := 4 + pixF ((tkK T n).2.2.1 k) ns 0) (by omega) (by omega)]
        exact good _ (by omega) c c12 (fun y => d y.2) (by omega) (by unfold leS; rw [if_neg n3, if_neg c4, if_neg c5, if_neg c6, q1])
    · rw [if_neg c7]
      exact Tr_f (by decide) (none0 (bad c c12 (by omega)))
  · refine none0 (bad c c12 (fun y => ?_))
    have := w6 (by omega)
    omega
theorem stO_L (K : TKs) (ns : List (List Int)) (k kd ph bg pr bs : Int) (r : List FR) (os : List Int) (cs : CDs) : stO K ns k kd ph bg pr bs r os cs = if (kd = 1 ∨ kd = 5) ∧ bg = 1 ∧ K.1 k = 266 then some (Sum.inl (k + 1, 0, (kd, ph, bg, pr, bs) :: r, 22 :: os, cs))
  else if (kd = 1 ∨ kd = 5) ∧ bg = 1 ∧ K.1 k = 91 then opnS K k 5 0 kd ph pr bs r os cs
  else if (kd = 1 ∨ kd = 5) ∧ bg = 1 ∧ K.1 k = 273 then some (Sum.inl (k + 1, 1, (kd, 2, 0, pr, bs) :: r, os, cs ++ [(9, 0)]))
  else stL K ns k kd ph pr bs r os cs := rfl
theorem M_operand {T : Int → Int} {n N b k kd ph bg pr bs : Int} {ns : List (List Int)} {r : List FR} {os : List Int} {cs : CDs} {V : ASt} (hb : b = 0 ∨ b = 1) (hL : lstK T n N) (hk : 0 ≤ k ∧ k ≤ N) (hr : rKt T n k V) (h : M1 T n b ns ((kd, ph, bg, pr, bs) :: r) os cs V) (h8 : V 142 8 = 0) (hg : gdS k ((kd, ph, bg, pr, bs) :: r) os cs) :
    Tr (f_M_operand S0 V 142) (PO T n b ns V (stO (tkK T n) ns k kd ph bg pr bs r os cs)) := by
  have hn := h.1.2.1
  have hNn := hL.2.1
  have hlen : ((((kd, ph, bg, pr, bs) :: r : List FR).length : Nat) : Int) = (r.length : Int) + 1 := by simp only [List.length_cons]; omega
  obtain ⟨hg1, hg2, hg3⟩ := hg
  have hF := h.2.2.2.2.2.1
  obtain ⟨⟨f1, f2, f3, f4, f5, f6, f7⟩, fr⟩ := hF
  have h36 : V 142 36 = (r.length : Int) + 1 := by rw [h.2.1, hlen]
  rw [stO_L]
  -- behind the deed of 'begins'
  have low : ∀ V1 : ASt, V1 162 = upI (V 162) (r.length : Int) 0 → (∀ a, a ≠ 162 → V1 a = V a) → M1 T n b ns ((kd, ph, 0, pr, bs) :: r) os cs V1 ∧ rKt T n k V1 ∧ V1 142 8 = 0 ∧ fmV b V V1 := by
    intro V1 e1 n1
    refine ⟨M1_F h (fun a ha => n1 a (by omega)) rfl ⟨⟨by rw [n1 160 (by decide)]; exact f1, by rw [n1 161 (by decide)]; exact f2, by rw [e1, upI_s], Or.inl rfl, fun z => by rw [n1 163 (by decide)]; exact f5 z, by rw [n1 164 (by decide)]; exact f6, f7⟩, fmR_k r (fun a i a1 a2 i0 i1 => ?_) fr⟩, rKt_k hr (fun j _ => by rw [n1 142 (by decide)]), by rw [n1 142 (by decide)]; exact h8, fmV_n (fun a a1 a2 => n1 a (by omega)) (fun k _ _ _ _ _ _ => by rw [n1 142 (by decide)])⟩
    by_cases z : a = 162
    · subst z; rw [e1, upI_n _ _ (by omega)]
    · rw [n1 a z]
  have hcs : (cs.length : Int) ≤ k := by omega
  have h60 : ∀ fi : Int, (fi = 0 ∨ fi = 1) → (fi = 1 → (kd = 1 ∨ kd = 5) ∧ bg = 1) → (fi = 0 → ¬ ((kd = 1 ∨ kd = 5) ∧ bg = 1)) → ¬ ((kd = 1 ∨ kd = 5) ∧ bg = 1 ∧ (tkK T n).1 k = 266) → Tr (b_M_operand_J60 S0 V 142 (r.length : Int) fi) (PO T n b ns V (if (kd = 1 ∨ kd = 5) ∧ bg = 1 ∧ (tkK T n).1 k = 91 then opnS (tkK T n) k 5 0 kd ph pr bs r os cs
      else if (kd = 1 ∨ kd = 5) ∧ bg = 1 ∧ (tkK T n).1 k = 273 then some (Sum.inl (k + 1, 1, (kd, 2, 0, pr, bs) :: r, os, cs ++ [(9, 0)])) else stL (tkK T n) ns k kd ph pr bs r os cs)) := by
    intro fi hfi hy hn0 hnot
    unfold b_M_operand_J60
    rw [F_142_33, A_162, gd_in (by omega) (by omega)]
    refine Tr_set (fun V1 e1 n1 => ?_)
    obtain ⟨m1, r1, z8, fv⟩ := low V1 e1 n1
    refine Tr_mono (P := PO T n b ns V1 _) ?_ (fun x U hU => PO_V fv hU)
    rcases hfi with q | q
    · have hq := hn0 q
      refine Tr_t q ?_
      rw [if_neg (fun z => hq ⟨z.1, z.2.1⟩), if_neg (fun z => hq ⟨z.1, z.2.1⟩)]
      unfold b_M_operand_J87
      exact Tr_t q (M_O121 hb hL hk r1 m1 z8 (by omega) hcs)
    · have hq := hy q
      refine Tr_f (by omega) (Tr_bq (K_sign r1 z8 91 (by decide)) ?_)
      by_cases c : (tkK T n).1 k = 91
      · rw [if_pos c]
        refine Tr_f (by decide) ?_
        rw [if_pos ⟨hq.1, hq.2, c⟩]
        exact (PO_opn hL ⟨hk.1, K_lt hL hk.2 (by omega) (by omega)⟩ r1 m1 z8 (by omega) (by decide))
      · rw [if_neg c]
        refine Tr_t rfl ?_
        rw [if_neg (fun z => c z.2.2)]
        unfold b_M_operand_J87
        refine Tr_f (by omega) (Tr_bq (K_word r1 z8 17 6384748 273 (by decide) (by decide) (by decide)) ?_)
        by_cases d : (tkK T n).1 k = 273
        · have hkN : k < N := K_lt hL hk.2 (by omega) (by omega)
          rw [if_pos d]
          refine Tr_f (by decide) ?_
          rw [if_pos ⟨hq.1, hq.2, d⟩]
          refine (Tr_bnd (M_add (x := 9) (v := 0) hb m1 (by omega)) ?_)
          rintro _ U ⟨u1, u2, u3, -⟩
          rw [F_142_32, A_161, gd_in (by omega) (by omega)]
          refine Tr_set (fun W eW nW => ?_)
          have hFu := u1.2.2.2.2.2.1
          obtain ⟨⟨k1, k2, k3, k4, k5, k6, k7⟩, kr⟩ := hFu
          have mW : M1 T n b ns ((kd, 2, 0, pr, bs) :: r) os (cs ++ [(9, 0)]) W := M1_F u1 (fun a ha => nW a (by omega)) rfl ⟨⟨by rw [nW 160 (by decide)]; exact k1, by rw [eW, upI_s], by rw [nW 162 (by decide)]; exact k3, Or.inl rfl, fun z => by rw [nW 163 (by decide)]; exact k5 z, by rw [nW 164 (by decide)]; exact k6, k7⟩, fmR_k r (fun a i a1 a2 i0 i1 => by
            by_cases z : a = 161
            · subst z; rw [eW, upI_n _ _ (by omega)]
            · rw [nW a z]) kr⟩
          have fW : fmV b U W := fmV_n (fun a a1 a2 => nW a (by omega)) (fun k _ _ _ _ _ _ => by rw [nW 142 (by decide)])
          refine Tr_bnd (M_next mW.1 hL ⟨hk.1, hkN⟩ (rKt_k (rKt_k r1 u3) (fun j _ => by rw [nW 142 (by decide)])) (by rw [nW 142 (by decide), u3 8 (by omega)]; exact z8)) ?_
          rintro _ X ⟨x1, x2⟩
          exact Tr_ret ⟨fmV_tr (fmV_tr u2 fW) (fmV_A x1), Or.inr rfl, Or.inl ⟨_, rfl, ⟨x2, fun _ => M1_A mW x1⟩, rfl⟩⟩
        · rw [if_neg d]
          refine Tr_t rfl ?_
          rw [if_neg (fun z => d z.2.2)]
          exact (M_O121 hb hL hk r1 m1 z8 (by omega) hcs)
  have h33 : ∀ fi : Int, (fi = 0 ∨ fi = 1) → (fi = 1 → (kd = 1 ∨ kd = 5) ∧ bg = 1) → (fi = 0 → ¬ ((kd = 1 ∨ kd = 5) ∧ bg = 1)) → Tr (b_M_operand_J33 S0 V 142 (r.length : Int) fi) (PO T n b ns V (if (kd = 1 ∨ kd = 5) ∧ bg = 1 ∧ (tkK T n).1 k = 266 then some (Sum.inl (k + 1, 0, (kd, ph, bg, pr, bs) :: r, 22 :: os, cs)) else if (kd = 1 ∨ kd = 5) ∧ bg = 1 ∧ (tkK T n).1 k = 91 then opnS (tkK T n) k 5 0 kd ph pr bs r os cs
      else if (kd = 1 ∨ kd = 5) ∧ bg = 1 ∧ (tkK T n).1 k = 273 then some (Sum.inl (k + 1, 1, (kd, 2, 0, pr, bs) :: r, os, cs ++ [(9, 0)])) else stL (tkK T n) ns k kd ph pr bs r os cs)) := by
    intro fi hfi hy hn0
    unfold b_M_operand_J33
    by_cases q : fi = 0
    · have hq := hn0 q
      refine Tr_t q ?_
      rw [if_neg (fun z => hq ⟨z.1, z.2.1⟩)]
      exact h60 fi hfi hy hn0 (fun z => hq ⟨z.1, z.2.1⟩)
    · have hq := hy (by omega)
      refine Tr_f q (Tr_bq (K_word hr h8 10 7237492 266 (by decide) (by decide) (by decide)) ?_)
      by_cases c : (tkK T n).1 k = 266
      · have hkN : k < N := K_lt hL hk.2 (by omega) (by omega)
        rw [if_pos c]
        refine Tr_f (by decide) ?_
        rw [if_pos ⟨hq.1, hq.2, c⟩]
        refine (Tr_bnd (M_hold (op := 22) h (by omega)) ?_)
        rintro _ U ⟨u1, u2, u3⟩
        refine Tr_bnd (M_next u1.1 hL ⟨hk.1, hkN⟩ (rKt_k hr u3) (by rw [u3 8 (by omega)]; exact h8)) ?_
        rintro _ W ⟨w1, w2⟩
        exact Tr_ret ⟨fmV_tr u2 (fmV_A w1), Or.inl rfl, Or.inl ⟨_, rfl, ⟨w2, fun _ => M1_A u1 w1⟩, rfl⟩⟩
      · rw [if_neg c]
        refine Tr_t rfl ?_
        rw [if_neg (fun z => c z.2.2)]
        exact (h60 fi hfi hy hn0 (fun z => c z.2.2))
  unfold f_M_operand
  rw [gd_t O_142, h36, w32_id (x := (r.length : Int) + 1 - 1) (by omega) (by omega), show (r.length : Int) + 1 - 1 = (r.length : Int) by omega, F_142_31, F_142_33, A_160, A_162, gd_in (by omega) (by omega), f1]
  have f3' : V 162 (r.length : Int) = bg := f3
  have f4' : bg = 0 ∨ bg = 1 := f4
  unfold f_M_isTest
  have yes : (kd = 1 ∨ kd = 5) → Tr (gd (inS 20 (r.length : Int)) (if V 162 (r.length : Int) = 0 then b_M_operand_J33 S0 V 142 (r.length : Int) 0 else b_M_operand_J33 S0 V 142 (r.length : Int) 1)) (PO T n b ns V (if (kd = 1 ∨ kd = 5) ∧ bg = 1 ∧ (tkK T n).1 k = 266 then some (Sum.inl (k + 1, 0, (kd, ph, bg, pr, bs) :: r, 22 :: os, cs)) else if (kd = 1 ∨ kd = 5) ∧ bg = 1 ∧ (tkK T n).1 k = 91 then opnS (tkK T n) k 5 0 kd ph pr bs r os cs
      else if (kd = 1 ∨ kd = 5) ∧ bg = 1 ∧ (tkK T n).1 k = 273 then some (Sum.inl (k + 1, 1, (kd, 2, 0, pr, bs) :: r, os, cs ++ [(9, 0)])) else stL (tkK T n) ns k kd ph pr bs r os cs)) := by
    intro ht
    rw [gd_in (by omega) (by omega), f3']
    refine Tr_if (fun z => h33 0 (Or.inl rfl) (fun y => absurd y (by decide)) (fun _ y => by omega)) (fun z => h33 1 (Or.inr rfl) (fun _ => ⟨ht, by omega⟩) (fun y => absurd y (by decide)))
  by_cases k1 : kd = 1
  · refine Tr_bq (if_pos k1) (Tr_f (by decide) (yes (Or.inl k1)))
  · by_cases k5 : kd = 5
    · refine Tr_bq ((if_neg k1).trans (if_pos k5)) (Tr_f (by decide) (yes (Or.inr k5)))
    · refine Tr_bq ((if_neg k1).trans (if_neg k5)) (Tr_t rfl (h33 0 (Or.inl rfl) (fun y => absurd y (by decide)) (fun _ y => by omega)))
