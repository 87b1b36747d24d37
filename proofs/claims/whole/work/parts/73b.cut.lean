/-! one token is cut -/
def tpC (T : Int → Int) (n : Int) (V : ASt) : Prop := V 1 0 = n ∧ (0 ≤ n ∧ n ≤ 1800) ∧ ∀ i, 0 ≤ i → i < n → V 2 i = T i ∧ 0 ≤ T i ∧ T i ≤ 255
theorem tpC_k {T : Int → Int} {n : Int} {V U : ASt} (h : tpC T n V) (h1 : U 1 = V 1) (h2 : U 2 = V 2) : tpC T n U := by unfold tpC at *; rw [h1, h2]; exact h
theorem C_at {T : Int → Int} {n : Int} {V : ASt} (h : tpC T n V) (k : Int) : f_Bytes_at S0 V 1 k = some (if 0 ≤ k ∧ k < n then T k else -1, V) := by
  have hn := h.2.1
  unfold f_Bytes_at
  rw [gd_t O_1, h.1, F_1_1, gd_t O_2, L_2, A_2]
  by_cases c : 0 ≤ k ∧ k < n
  · rw [if_neg (show ¬ (k < 0) by omega), if_neg (show ¬ (n ≤ k) by omega), if_neg (show ¬ (1800 ≤ k) by omega), gd_in (by omega) (by omega), if_pos c, (h.2.2 k c.1 c.2).1]
  · rw [if_neg c]
    by_cases d : k < 0
    · rw [if_pos d]
    · rw [if_neg d, if_pos (by omega)]
theorem C_isLetter (V : ASt) (c : Int) : f_Tokens_isLetter S0 V c = some (if ltr c then 1 else 0, V) := M_isLetter V c
theorem C_isDigit (V : ASt) (c : Int) : f_Tokens_isDigit S0 V c = some (if dgt c then 1 else 0, V) := M_isDigit V c
-- ---- signs
theorem sl6 : sLn (-6) = 14 := by decide +kernel
theorem sb6 : ∀ i : Nat, i < 14 → sB (-6) (i : Int) = ([59, 44, 40, 41, 91, 93, 60, 62, 61, 43, 45, 42, 47, 37] : List Int).getD i 0 := by decide +kernel
theorem ch16_b : ∀ c : Nat, c < 256 → chr16 (c : Int) = (c : Int) ∧ byt8 (c : Int) = (if c < 128 then (c : Int) else (c : Int) - 256) := by decide +kernel
theorem isBi_t {i : Int} (h0 : 0 ≤ i) (h1 : i < 14) : isBi (-6) i = true := by
  unfold isBi
  rw [show isB (-6) = true by decide, decide_eq_true h0, sl6, decide_eq_true h1]; rfl
theorem C_sign {c : Int} (V : ASt) (h0 : 0 ≤ c) (h1 : c ≤ 255) : ∃ r, f_Str_indexOf_I S0 V (-3) (chr16 c) = some (r, V) ∧ (r < 0 ↔ ¬ sgn c) := by
  obtain ⟨d, ed⟩ : ∃ d : Nat, c = (d : Int) := ⟨c.toNat, by omega⟩
  have hc := ch16_b d (by omega)
  rw [← ed] at hc
  have hl : ∀ (m : Nat) (i : Int), 0 ≤ i → i ≤ 14 → 14 - i < m → (∀ j : Nat, (j : Int) < i → sB (-6) (j : Int) ≠ byt8 c) → ∃ r, b_Lat_indexOfChar_L7 S0 (-6) 14 (byt8 c) m V i = some (r, V) ∧ ((r < 0 ∧ ∀ j : Nat, j < 14 → sB (-6) (j : Int) ≠ byt8 c) ∨ (0 ≤ r ∧ ∃ j : Nat, j < 14 ∧ sB (-6) (j : Int) = byt8 c)) := by
    intro m
    induction m with
    | zero => intro i h1 h2 h3; omega
    | succ m ih =>
      intro i i0 i1 hm hj
      rw [b_Lat_indexOfChar_L7]
      by_cases z : 14 ≤ i
      · rw [if_pos z]
        exact ⟨-1, rfl, Or.inl ⟨by decide, fun j hj' => hj j (by omega)⟩⟩
      · rw [if_neg z, gd_t (isBi_t i0 (by omega)), w32_id (x := i + 1) (by omega) (by omega)]
        by_cases y : sB (-6) i = byt8 c
        · rw [if_pos y]
          refine ⟨i, rfl, Or.inr ⟨i0, i.toNat, by omega, ?_⟩⟩
          rw [show ((i.toNat : Nat) : Int) = i by omega]; exact y
        · rw [if_neg y]
          refine ih (i + 1) (by omega) (by omega) (by omega) (fun j hj' => ?_)
          by_cases x : (j : Int) = i
          · rw [x]; exact y
          · exact hj j (by omega)
  obtain ⟨r, hr, hh⟩ := hl FU 0 (by omega) (by omega) (by rw [FU_v]; omega) (fun j hj => by omega)
  refine ⟨r, ?_, ?_⟩
  · rw [hc.1]
    unfold f_Str_indexOf_I f_Str_indexOf_II f_Str_isLatin1 f_Str_length f_Str_coder f_Lat_indexOf f_Lat_canEncode f_Math_max_II f_Math_min_II f_Lat_indexOfChar
    rw [show ((-3 : Int) - 3) = -6 by decide, gd_t (show isS (-3) = true by decide), gd_t (show isS (-3) = true by decide), gd_t (show isS (-3) = true by decide), bnd_e, if_neg (by decide), gd_t (show isS (-3) = true by decide), gd_t (show isB (-6) = true by decide), gd_t (show isS (-3) = true by decide), gd_t (show byOK 0 = true by decide), bnd_e, sl6, show shr32 14 0 = 14 by decide, bnd_e, if_neg (show ¬ (c < 0) by omega), if_neg (show ¬ (255 < c) by omega), bnd_e, if_neg (by decide), if_neg (by decide), bnd_e, gd_t (show isB (-6) = true by decide), if_neg (by decide), bnd_e, if_pos (by decide), hr]
    rfl
  · have v : ∀ j : Nat, j < 14 → sB (-6) (j : Int) = byt8 c → sgn c := by
      intro j hj e
      rw [sb6 j hj, hc.2] at e
      have : j = 0 ∨ j = 1 ∨ j = 2 ∨ j = 3 ∨ j = 4 ∨ j = 5 ∨ j = 6 ∨ j = 7 ∨ j = 8 ∨ j = 9 ∨ j = 10 ∨ j = 11 ∨ j = 12 ∨ j = 13 := by omega
      by_cases q : d < 128
      · rw [if_pos q] at e
        unfold sgn
        rcases this with z | z | z | z | z | z | z | z | z | z | z | z | z | z <;> subst z
        · have e' : (59 : Int) = c := e; omega
        · have e' : (44 : Int) = c := e; omega
        · have e' : (40 : Int) = c := e; omega
        · have e' : (41 : Int) = c := e; omega
        · have e' : (91 : Int) = c := e; omega
        · have e' : (93 : Int) = c := e; omega
        · have e' : (60 : Int) = c := e; omega
        · have e' : (62 : Int) = c := e; omega
        · have e' : (61 : Int) = c := e; omega
        · have e' : (43 : Int) = c := e; omega
        · have e' : (45 : Int) = c := e; omega
        · have e' : (42 : Int) = c := e; omega
        · have e' : (47 : Int) = c := e; omega
        · have e' : (37 : Int) = c := e; omega
      · rw [if_neg q] at e
        exfalso
        rcases this with z | z | z | z | z | z | z | z | z | z | z | z | z | z <;> subst z
        · have e' : (59 : Int) = c - 256 := e; omega
        · have e' : (44 : Int) = c - 256 := e; omega
        · have e' : (40 : Int) = c - 256 := e; omega
        · have e' : (41 : Int) = c - 256 := e; omega
        · have e' : (91 : Int) = c - 256 := e; omega
        · have e' : (93 : Int) = c - 256 := e; omega
        · have e' : (60 : Int) = c - 256 := e; omega
        · have e' : (62 : Int) = c - 256 := e; omega
        · have e' : (61 : Int) = c - 256 := e; omega
        · have e' : (43 : Int) = c - 256 := e; omega
        · have e' : (45 : Int) = c - 256 := e; omega
        · have e' : (42 : Int) = c - 256 := e; omega
        · have e' : (47 : Int) = c - 256 := e; omega
        · have e' : (37 : Int) = c - 256 := e; omega
    have u : sgn c → ∃ j : Nat, j < 14 ∧ sB (-6) (j : Int) = byt8 c := by
      intro s
      have q : d < 128 := by unfold sgn at s; omega
      rw [hc.2, if_pos q]
      unfold sgn at s
      rcases s with s | s | s | s | s | s | s | s | s | s | s | s | s | s <;> rw [s]
      · exact ⟨0, by decide, sb6 0 (by decide)⟩
      · exact ⟨1, by decide, sb6 1 (by decide)⟩
      · exact ⟨2, by decide, sb6 2 (by decide)⟩
      · exact ⟨3, by decide, sb6 3 (by decide)⟩
      · exact ⟨4, by decide, sb6 4 (by decide)⟩
      · exact ⟨5, by decide, sb6 5 (by decide)⟩
      · exact ⟨6, by decide, sb6 6 (by decide)⟩
      · exact ⟨7, by decide, sb6 7 (by decide)⟩
      · exact ⟨8, by decide, sb6 8 (by decide)⟩
      · exact ⟨9, by decide, sb6 9 (by decide)⟩
      · exact ⟨10, by decide, sb6 10 (by decide)⟩
      · exact ⟨11, by decide, sb6 11 (by decide)⟩
      · exact ⟨12, by decide, sb6 12 (by decide)⟩
      · exact ⟨13, by decide, sb6 13 (by decide)⟩
    rcases hh with ⟨a, b⟩ | ⟨a, b⟩
    · exact ⟨fun _ s => by obtain ⟨j, j1, j2⟩ := u s; exact b j j1 j2, fun _ => a⟩
    · obtain ⟨j, j1, j2⟩ := b
      exact ⟨fun z => by omega, fun z => absurd (v j j1 j2) z⟩
-- ---- a word
def tkA (V0 U : ASt) (i ty pl ct : Int) : Prop := U 36 4 = i + 1 ∧ U 38 = upI (V0 38) i ty ∧ U 39 = upI (V0 39) i pl ∧ U 40 = upI (V0 40) i ct ∧ ∀ c, c ≠ 36 → c ≠ 38 → c ≠ 39 → c ≠ 40 → U c = V0 c
theorem C_addT {V0 V : ASt} {i ty pl ct : Int} (h4 : V 36 4 = i) (h : 0 ≤ i ∧ i < 1801) (hf : ∀ c, c ≠ 36 → V c = V0 c) : Tr (f_Tokens_add S0 V 36 ty pl ct) (fun r U => r = ty ∧ tkA V0 U i ty pl ct ∧ U 36 5 = V 36 5) := by
  refine Tr_mono (C_add h4 h) ?_
  rintro r U ⟨u1, u2, u3, u4, u5, u6⟩
  refine ⟨u1, ⟨by rw [u2, upI_s], ?_, ?_, ?_, fun c c1 c2 c3 c4 => by rw [u6 c c1 c2 c3 c4, hf c c1]⟩, by rw [u2, upI_n _ _ (by decide)]⟩
  · rw [u3, hf 38 (by decide)]
  · rw [u4, hf 39 (by decide)]
  · rw [u5, hf 40 (by decide)]
theorem C_own {V0 V : ASt} {ls : List Int} {i pl : Int} (h4 : V 36 4 = i) (h : 0 ≤ i ∧ i < 1801) (hf : ∀ c, c ≠ 36 → V c = V0 c) (hoc : ∀ j, 0 ≤ j → j < 23 → V0 37 j = ocd j) (hl : nmL ls) :
    Tr (b_Tokens_cutWord_L92 S0 36 pl (nm32 ls 33554432) FU V 2 0) (fun r U => r = ownT ls ∧ tkA V0 U i (ownT ls) pl (nm32 ls 33554432) ∧ U 36 5 = V 36 5) := by
  have hlp : ∀ (m j : Nat) (d : Int), j ≤ 23 → 23 - j < m → ownL ls (ownW.drop j) (256 + (j : Int)) d = ownT ls → Tr (b_Tokens_cutWord_L92 S0 36 pl (nm32 ls 33554432) m V d (j : Int)) (fun r U => r = ownT ls ∧ tkA V0 U i (ownT ls) pl (nm32 ls 33554432) ∧ U 36 5 = V 36 5) := by
    intro m
    induction m with
    | zero => intro j d h1 h2; omega
    | succ m ih =>
      intro j d j1 hm ho
      have hwl : ownW.length = 23 := rfl
      rw [b_Tokens_cutWord_L92]
      refine Tr_if (fun c => ?_) (fun c => ?_)
      · rw [List.drop_eq_nil_of_le (by omega), ownL] at ho
        rw [ho]
        refine Tr_bnd (C_addT h4 h hf) ?_
        rintro r U ⟨u1, u2, u3⟩
        exact Tr_ret ⟨u1, u2, u3⟩
      · have hj : j < ownW.length := by omega
        have hoj : ocd (j : Int) = nm32 (ownW.getD j []) 33554432 := ocd_w j (by omega)
        have hgj : ownW.getD j [] = ownW[j] := by rw [List.getD_eq_getElem?_getD, List.getElem?_eq_getElem hj]; rfl
        have hmem : ownW[j] ∈ ownW := List.getElem_mem _
        rw [List.drop_eq_getElem_cons hj, ownL] at ho
        rw [F_36_0, A_37, gd_in (by omega) (by omega), hf 37 (by decide), hoc (j : Int) (by omega) (by omega), hoj, hgj, w32_id (x := 256 + (j : Int)) (by omega) (by omega), w32_id (x := (j : Int) + 1) (by omega) (by omega), show (j : Int) + 1 = ((j + 1 : Nat) : Int) by omega]
        refine Tr_if (fun e => ?_) (fun e => ?_)
        · have es := nm32_i (ownW_nm _ hmem) hl e
          rw [if_pos es.symm, show 256 + (j : Int) + 1 = 256 + ((j + 1 : Nat) : Int) by omega] at ho
          exact ih (j + 1) _ (by omega) (by omega) ho
        · have es : ¬ ls = ownW[j] := fun z => e (by rw [z])
          rw [if_neg es, show 256 + (j : Int) + 1 = 256 + ((j + 1 : Nat) : Int) by omega] at ho
          exact ih (j + 1) d (by omega) (by omega) ho
  have := hlp FU 0 2 (by omega) (by rw [FU_v]; omega) (by rw [List.drop_zero]; exact ownT_L ls)
  exact this
theorem C_cutWord {T : Int → Int} {n a i : Int} {V : ASt} (hT : tpC T n V) (h0 : 0 ≤ a) (h1 : a < n) (hl : ltr (T a)) (h4 : V 36 4 = i) (h5 : V 36 5 = a) (hi : 0 ≤ i ∧ i < 1801) (hoc : ∀ j, 0 ≤ j → j < 23 → V 37 j = ocd j) :
    Tr (f_Tokens_cutWord S0 V 36 1) (fun r U => (6 < wE T n a - a ∧ r = 1 ∧ tkA V U i 1 (a + 6) 0) ∨ (¬ 6 < wE T n a - a ∧ r = ownT (sbl T (wE T n a - a).toNat a) ∧ tkA V U i (ownT (sbl T (wE T n a - a).toNat a)) a (nm32 (sbl T (wE T n a - a).toNat a) 33554432) ∧ U 36 5 = wE T n a)) := by
  have hn := hT.2.1
  have hwn := wE_n (n := n) h0 h1 hl
  unfold f_Tokens_cutWord
  rw [gd_t O_36, h5]
  have hlp : ∀ (m s : Nat) (j : Int) (W : ASt), a ≤ j → j ≤ n → n - j < m → n - j < s → rnE T n 97 122 s j = wE T n a → j - a ≤ 6 → (∀ d, a ≤ d → d < j → ltr (T d)) → W 36 5 = j → W 36 4 = i → (∀ c, c ≠ 36 → W c = V c) →
      Tr (b_Tokens_cutWord_L7 S0 36 1 a m W (nm32 (sbl T (j - a).toNat a) 33554432)) (fun r U => (6 < wE T n a - a ∧ r = 1 ∧ tkA V U i 1 (a + 6) 0) ∨ (¬ 6 < wE T n a - a ∧ r = ownT (sbl T (wE T n a - a).toNat a) ∧ tkA V U i (ownT (sbl T (wE T n a - a).toNat a)) a (nm32 (sbl T (wE T n a - a).toNat a) 33554432) ∧ U 36 5 = wE T n a)) := by
    intro m
    induction m with
    | zero => intro s j W h1 h2 h3; omega
    | succ m ih =>
      intro s j W j0 j1 hm hs hr h6 hlt w5 w4 fW
      have tW := tpC_k hT (fW 1 (by decide)) (fW 2 (by decide))
      obtain ⟨s', es⟩ : ∃ s', s = s' + 1 := ⟨s - 1, by omega⟩
      subst es
      rw [rnE] at hr
      have hend : ¬ (j < n ∧ 97 ≤ T j ∧ T j ≤ 122) → Tr (b_Tokens_cutWord_L92 S0 36 a (nm32 (sbl T (j - a).toNat a) 33554432) FU W 2 0) (fun r U => (6 < wE T n a - a ∧ r = 1 ∧ tkA V U i 1 (a + 6) 0) ∨ (¬ 6 < wE T n a - a ∧ r = ownT (sbl T (wE T n a - a).toNat a) ∧ tkA V U i (ownT (sbl T (wE T n a - a).toNat a)) a (nm32 (sbl T (wE T n a - a).toNat a) 33554432) ∧ U 36 5 = wE T n a)) := by
        intro hc
        rw [if_neg hc] at hr
        have hnm := hwn.2.2 (by omega)
        rw [hr]
        refine Tr_mono (C_own w4 hi fW hoc hnm) ?_
        rintro r U ⟨u1, u2, u3⟩
        exact Or.inr ⟨by omega, u1, u2, by rw [u3, w5, hr]⟩
      rw [b_Tokens_cutWord_L7, gd_t O_1, tW.1, w5]
      refine Tr_if (fun c => hend (by omega)) (fun c => ?_)
      refine Tr_bq (C_at tW j) ?_
      rw [if_pos (show 0 ≤ j ∧ j < n by omega)]
      refine Tr_bq (C_isLetter W (T j)) ?_
      by_cases cl : ltr (T j)
      · rw [if_pos cl]
        refine Tr_f (by decide) ?_
        rw [if_pos ⟨by omega, cl.1, cl.2⟩] at hr
        have hgt := (rnE_r T n 97 122 s' (j + 1)).1
        rw [w5, w32_id (x := j - a) (by omega) (by omega)]
        refine Tr_if (fun d => ?_) (fun d => ?_)
        · refine Tr_bnd (C_addT w4 hi fW) ?_
          rintro r U ⟨u1, u2, -⟩
          rw [show j = a + 6 by omega] at u2
          exact Tr_ret (Or.inl ⟨by omega, u1, u2⟩)
        · refine Tr_bq (C_at tW j) ?_
          rw [if_pos (show 0 ≤ j ∧ j < n by omega)]
          have hlen := sbl_len T (j - a).toNat a
          have hwl := C_withLetter (l := sbl T (j - a).toNat a) (c := T j) W (fun d hd => by
            obtain ⟨k, k1, k2, k3⟩ := sbl_mem T _ _ _ hd
            rw [k3]; exact hlt k k1 (by omega)) (by omega) cl
          rw [hlen, show (((j - a).toNat : Nat) : Int) = j - a by omega] at hwl
          refine Tr_bq hwl ?_
          rw [w5, w32_id (x := j + 1) (by omega) (by omega)]
          refine Tr_set (fun W1 e1 n1 => ?_)
          have ex : sbl T (j - a).toNat a ++ [T j] = sbl T (j + 1 - a).toNat a := by
            rw [show (j + 1 - a).toNat = (j - a).toNat + 1 by omega, sbl_s, show a + ((j - a).toNat : Int) = j by omega]
          rw [ex]
          refine ih s' (j + 1) W1 (by omega) (by omega) (by omega) (by omega) hr (by omega) (fun d d0 d1 => ?_) (by rw [e1, upI_s]) (by rw [e1, upI_n _ _ (by decide)]; exact w4) (fun c hc => by rw [n1 c hc, fW c hc])
          by_cases z : d = j
          · rw [z]; exact cl
          · exact hlt d d0 (by omega)
      · rw [if_neg cl]
        exact Tr_t rfl (hend (fun z => cl z.2))
  have := hlp FU 2000 a V (by omega) (by omega) (by rw [FU_v]; omega) (by omega) rfl (by omega) (fun d d0 d1 => by omega) h5 h4 (fun _ _ => rfl)
  rw [show (a - a).toNat = 0 by omega] at this
  exact this
theorem C_cutNumber {T : Int → Int} {n a i : Int} {V : ASt} (hT : tpC T n V) (h0 : 0 ≤ a) (h1 : a < n) (hl : dgt (T a)) (h4 : V 36 4 = i) (h5 : V 36 5 = a) (hi : 0 ≤ i ∧ i < 1801) :
    Tr (f_Tokens_cutNumber S0 V 36 1) (fun r U => (4 < dE T n a - a ∧ r = 1 ∧ tkA V U i 1 (a + 4) 0) ∨ (¬ 4 < dE T n a - a ∧ r = 3 ∧ tkA V U i 3 a (nd (sbl T (dE T n a - a).toNat a) 0) ∧ U 36 5 = dE T n a)) := by
  have hn := hT.2.1
  have hwn := dE_n (n := n) h0 h1 hl
  unfold f_Tokens_cutNumber
  rw [gd_t O_36, h5]
  have hlp : ∀ (m s : Nat) (j : Int) (W : ASt), a ≤ j → j ≤ n → n - j < m → n - j < s → rnE T n 48 57 s j = dE T n a → j - a ≤ 4 → (∀ d, a ≤ d → d < j → dgt (T d)) → W 36 5 = j → W 36 4 = i → (∀ c, c ≠ 36 → W c = V c) →
      Tr (b_Tokens_cutNumber_L7 S0 36 1 a m W (nd (sbl T (j - a).toNat a) 0)) (fun r U => (4 < dE T n a - a ∧ r = 1 ∧ tkA V U i 1 (a + 4) 0) ∨ (¬ 4 < dE T n a - a ∧ r = 3 ∧ tkA V U i 3 a (nd (sbl T (dE T n a - a).toNat a) 0) ∧ U 36 5 = dE T n a)) := by
    intro m
    induction m with
    | zero => intro s j W h1 h2 h3; omega
    | succ m ih =>
      intro s j W j0 j1 hm hs hr h6 hlt w5 w4 fW
      have tW := tpC_k hT (fW 1 (by decide)) (fW 2 (by decide))
      obtain ⟨s', es⟩ : ∃ s', s = s' + 1 := ⟨s - 1, by omega⟩
      subst es
      rw [rnE] at hr
      have hend : ¬ (j < n ∧ 48 ≤ T j ∧ T j ≤ 57) → Tr (b_Tokens_cutNumber_J83 S0 W 36 a (nd (sbl T (j - a).toNat a) 0)) (fun r U => (4 < dE T n a - a ∧ r = 1 ∧ tkA V U i 1 (a + 4) 0) ∨ (¬ 4 < dE T n a - a ∧ r = 3 ∧ tkA V U i 3 a (nd (sbl T (dE T n a - a).toNat a) 0) ∧ U 36 5 = dE T n a)) := by
        intro hc
        rw [if_neg hc] at hr
        rw [hr]
        unfold b_Tokens_cutNumber_J83
        refine Tr_bnd (C_addT w4 hi fW) ?_
        rintro r U ⟨u1, u2, u3⟩
        exact Tr_ret (Or.inr ⟨by omega, u1, u2, by rw [u3, w5, hr]⟩)
      rw [b_Tokens_cutNumber_L7, gd_t O_1, tW.1, w5]
      refine Tr_if (fun c => hend (by omega)) (fun c => ?_)
      refine Tr_bq (C_at tW j) ?_
      rw [if_pos (show 0 ≤ j ∧ j < n by omega)]
      refine Tr_bq (C_isDigit W (T j)) ?_
      by_cases cl : dgt (T j)
      · rw [if_pos cl]
        refine Tr_f (by decide) ?_
        rw [if_pos ⟨by omega, cl.1, cl.2⟩] at hr
        have hgt := (rnE_r T n 48 57 s' (j + 1)).1
        rw [w5, w32_id (x := j - a) (by omega) (by omega)]
        refine Tr_if (fun d => ?_) (fun d => ?_)
        · refine Tr_bnd (C_addT w4 hi fW) ?_
          rintro r U ⟨u1, u2, -⟩
          rw [show j = a + 4 by omega] at u2
          exact Tr_ret (Or.inl ⟨by omega, u1, u2⟩)
        · refine Tr_bq (C_at tW j) ?_
          rw [if_pos (show 0 ≤ j ∧ j < n by omega)]
          have hlen := sbl_len T (j - a).toNat a
          have hb7 := nd_b (sbl T (j - a).toNat a) 0 (by omega) (fun c hc => by
            obtain ⟨k, k1, k2, k3⟩ := sbl_mem T _ _ _ hc
            rw [k3]; exact hlt k k1 (by omega))
          rw [hlen] at hb7
          have hle : nd (sbl T (j - a).toNat a) 0 ≤ 999 := by
            have : j - a = 0 ∨ j - a = 1 ∨ j - a = 2 ∨ j - a = 3 := by omega
            rcases this with z | z | z | z
            · have := hb7.2.1 (by omega); omega
            · have := hb7.2.2.1 (by omega); omega
            · have := hb7.2.2.2.1 (by omega); omega
            · have := hb7.2.2.2.2.1 (by omega); omega
          rw [w5, w32_id (x := j + 1) (by omega) (by omega), w32_id (x := nd (sbl T (j - a).toNat a) 0 * 10) (by omega) (by omega), w32_id (x := nd (sbl T (j - a).toNat a) 0 * 10 + T j) (by omega) (by omega), w32_id (x := nd (sbl T (j - a).toNat a) 0 * 10 + T j - 48) (by omega) (by omega)]
          refine Tr_set (fun W1 e1 n1 => ?_)
          have ex : nd (sbl T (j - a).toNat a) 0 * 10 + T j - 48 = nd (sbl T (j + 1 - a).toNat a) 0 := by
            rw [show (j + 1 - a).toNat = (j - a).toNat + 1 by omega, sbl_s, show a + ((j - a).toNat : Int) = j by omega, nd_s]
            omega
          rw [ex]
          refine ih s' (j + 1) W1 (by omega) (by omega) (by omega) (by omega) hr (by omega) (fun d d0 d1 => ?_) (by rw [e1, upI_s]) (by rw [e1, upI_n _ _ (by decide)]; exact w4) (fun c hc => by rw [n1 c hc, fW c hc])
          by_cases z : d = j
          · rw [z]; exact cl
          · exact hlt d d0 (by omega)
      · rw [if_neg cl]
        exact Tr_t rfl (hend (fun z => cl z.2))
  have := hlp FU 2000 a V (by omega) (by omega) (by rw [FU_v]; omega) (by omega) rfl (by omega) (fun d d0 d1 => by omega) h5 h4 (fun _ _ => rfl)
  rw [show (a - a).toNat = 0 by omega] at this
  exact this
