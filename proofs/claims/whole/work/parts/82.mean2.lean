/-! both words of a test give the same value -/
theorem sqR_i {a : R3} {f : Int → R3} (h : (sqR a f).1 = 0) : a.1 = 0 ∧ (f a.2.1).1 = 0 ∧ (sqR a f).2.2.1 = a.2.2.1 ++ (f a.2.1).2.2.1 ∧ (sqR a f).2.2.2 = a.2.2.2 ++ (f a.2.1).2.2.2 := by
  by_cases c : a.1 = 0
  · rw [sqR_o c] at h ⊢
    by_cases d : (f a.2.1).1 = 0
    · rw [if_pos d]; exact ⟨c, d, rfl, rfl⟩
    · rw [if_neg d] at h; exact absurd h d
  · rw [sqR_f c] at h; exact absurd h c
/-- running w and c puts v upon the stack -/
def pu (ev : Int → Int) (D : Int) (w c : CDs) (v : Int) : Prop := ∀ (lim : Int) (st : List Int), (st.length : Int) + D ≤ lim → runW lim ev w st = some (v :: st) ∧ runW lim ev c st = some (v :: st)
def tu (ev : Int → Int) (D : Int) (w c : CDs) (a v : Int) : Prop := ∀ (lim : Int) (st : List Int), (st.length : Int) + D ≤ lim → runW lim ev w (a :: st) = some (v :: st) ∧ runW lim ev c (a :: st) = some (v :: st)
theorem pu_tu {ev : Int → Int} {D D1 : Int} {w c w' c' : CDs} {a v : Int} (h : pu ev D1 w c a) (h2 : tu ev D w' c' a v) (hd : D1 ≤ D) : pu ev D (w ++ w') (c ++ c') v := fun lim st hl => ⟨runW_2 (h lim st (by omega)).1 (h2 lim st hl).1, runW_2 (h lim st (by omega)).2 (h2 lim st hl).2⟩
/-- an operand and its operator behind one that lies there -/
theorem tu_op {ev : Int → Int} {D D1 s a b : Int} {w c : CDs} (h : pu ev D1 w c b) (hd : D1 + 1 ≤ D) (hs : 10 ≤ s ∧ s ≤ 21) (hb : (s = 20 ∨ s = 21) → bl1 a ∧ bl1 b) : tu ev D (w ++ [(s, 0)]) (c ++ [(s, 0)]) a (opv s a b) := fun lim st hl => by
  have h1 := h lim (a :: st) (by simp only [List.length_cons]; omega)
  exact ⟨runW_2 h1.1 (stW_o hs hb), runW_2 h1.2 (stW_o hs hb)⟩
theorem tu_tr {ev : Int → Int} {D : Int} {w c w' c' : CDs} {a b v : Int} (h : tu ev D w c a b) (h2 : tu ev D w' c' b v) : tu ev D (w ++ w') (c ++ c') a v := fun lim st hl => ⟨runW_2 (h lim st hl).1 (h2 lim st hl).1, runW_2 (h lim st hl).2 (h2 lim st hl).2⟩
def SEf (K : TKs) (ns : List (List Int)) (N : Int) (ev : Int → Int) (P : Int → Prop) (m nt : Nat) (d : Int) : Prop := ∀ k o, k ≤ N → 0 ≤ o → o ≤ 8 → (ps K ns m nt k o).1 = 0 → ∃ v, P v ∧ pu ev (3 * (8 - o) + d) (ps K ns m nt k o).2.2.1 (ps K ns m nt k o).2.2.2 v
def SEl (K : TKs) (ns : List (List Int)) (N : Int) (ev : Int → Int) (P : Int → Prop) (m nt : Nat) (d : Int) : Prop := ∀ k o a, k ≤ N → 0 ≤ o → o ≤ 8 → P a → (ps K ns m nt k o).1 = 0 → ∃ v, P v ∧ tu ev (3 * (8 - o) + d) (ps K ns m nt k o).2.2.1 (ps K ns m nt k o).2.2.2 a v
theorem SE_two {K : TKs} {ns : List (List Int)} {N : Int} {ev : Int → Int} {P : Int → Prop} {m q u : Nat} {d1 d : Int} (hN : lsT K N) (hq : lpN q = 1) (hd : d1 ≤ d) (h1 : SEf K ns N ev P m q d1) (h2 : SEl K ns N ev P m u d) {k o : Int} (hk : k ≤ N) (o0 : 0 ≤ o) (o8 : o ≤ 8) (h : (sqR (ps K ns m q k o) (fun j => ps K ns m u j o)).1 = 0) :
    ∃ v, P v ∧ pu ev (3 * (8 - o) + d) (sqR (ps K ns m q k o) (fun j => ps K ns m u j o)).2.2.1 (sqR (ps K ns m q k o) (fun j => ps K ns m u j o)).2.2.2 v := by
  obtain ⟨a1, a2, a3, a4⟩ := sqR_i h
  have hv := ps_adv (ns := ns) hN m q k o hk a1
  obtain ⟨x, px, hx⟩ := h1 k o hk o0 o8 a1
  obtain ⟨y, py, hy⟩ := h2 _ o x hv.2.1 o0 o8 px a2
  rw [a3, a4]
  exact ⟨y, py, pu_tu hx hy (by omega)⟩
theorem SE_go {K : TKs} {ns : List (List Int)} {N : Int} {ev : Int → Int} {P : Int → Prop} {m q u : Nat} {d1 d s : Int} (hN : lsT K N) (hq : lpN q = 1) (hd : d1 + 1 ≤ d) (hs : 10 ≤ s ∧ s ≤ 21) (hP : ∀ a b, P a → P b → P (opv s a b) ∧ ((s = 20 ∨ s = 21) → bl1 a ∧ bl1 b)) (h1 : SEf K ns N ev P m q d1) (h2 : SEl K ns N ev P m u d) {k o a : Int} (hk : k < N) (o0 : 0 ≤ o) (o8 : o ≤ 8) (ha : P a) (h : (sqR (sqR (ps K ns m q (k + 1) o) (fun j => okR j [(s, 0)])) (fun j => ps K ns m u j o)).1 = 0) :
    ∃ v, P v ∧ tu ev (3 * (8 - o) + d) (sqR (sqR (ps K ns m q (k + 1) o) (fun j => okR j [(s, 0)])) (fun j => ps K ns m u j o)).2.2.1 (sqR (sqR (ps K ns m q (k + 1) o) (fun j => okR j [(s, 0)])) (fun j => ps K ns m u j o)).2.2.2 a v := by
  obtain ⟨a1, a2, a3, a4⟩ := sqR_i h
  obtain ⟨b1, -, -, -⟩ := sqR_i a1
  rw [a3, a4]
  rw [sqR_ok b1] at a2 ⊢
  have hv := ps_adv (ns := ns) hN m q (k + 1) o (by omega) b1
  obtain ⟨x, px, hx⟩ := h1 (k + 1) o (by omega) o0 o8 b1
  have hop := hP a x ha px
  obtain ⟨y, py, hy⟩ := h2 _ o (opv s a x) hv.2.1 o0 o8 hop.1 a2
  exact ⟨y, py, tu_tr (tu_op hx (by omega) hs hop.2) hy⟩
theorem SE_stop {ev : Int → Int} {P : Int → Prop} {D a k : Int} (ha : P a) : ∃ v, P v ∧ tu ev D (okR k []).2.2.1 (okR k []).2.2.2 a v := ⟨a, ha, fun _ _ _ => ⟨rfl, rfl⟩⟩
theorem SE_push {ev : Int → Int} {D : Int} {c : Int × Int} {v : Int} (hc : c.1 ≤ 9) (hd : 1 ≤ D) (hv : (if c.1 = 0 then c.2 else if c.1 = 9 then 1 else ev c.1) = v) : pu ev D [c] [c] v := fun lim st hl => by
  rw [stW_p hc (by omega), hv]; exact ⟨rfl, rfl⟩
theorem SE_all {K : TKs} {ns : List (List Int)} {N : Int} {ev : Int → Int} (hN : lsT K N) (hev : ∀ s, 1 ≤ s → s ≤ 5 → bigI (ev s)) (hnu : ∀ k, k ≤ N → K.1 k = 3 → bigI (K.2.2.2 k)) (hns : ns.length ≤ 2) : ∀ m : Nat,
    SEf K ns N ev bl1 m 0 6 ∧ SEl K ns N ev bl1 m 1 6 ∧ SEf K ns N ev bl1 m 2 5 ∧ SEl K ns N ev bl1 m 3 5 ∧ SEf K ns N ev bl1 m 4 4 ∧ SEf K ns N ev bl1 m 5 4 ∧ SEf K ns N ev bigI m 6 3 ∧ SEl K ns N ev bigI m 7 3 ∧ SEf K ns N ev bigI m 8 2 ∧ SEl K ns N ev bigI m 9 2 ∧ SEf K ns N ev bigI m 10 1 ∧ SEf K ns N ev bl1 m 11 4 ∧ SEf K ns N ev bigI m 12 1 ∧ SEf K ns N ev bigI m 13 1 := by
  intro m
  induction m with
  | zero =>
    have z : ∀ (nt : Nat) (k o : Int), (ps K ns 0 nt k o).1 = 0 → False := fun nt k o h => by
      have h9 : (9 : Int) = 0 := h
      omega
    exact ⟨fun k o _ _ _ h => (z _ k o h).elim, fun k o _ _ _ _ _ h => (z _ k o h).elim, fun k o _ _ _ h => (z _ k o h).elim, fun k o _ _ _ _ _ h => (z _ k o h).elim, fun k o _ _ _ h => (z _ k o h).elim, fun k o _ _ _ h => (z _ k o h).elim, fun k o _ _ _ h => (z _ k o h).elim, fun k o _ _ _ _ _ h => (z _ k o h).elim, fun k o _ _ _ h => (z _ k o h).elim, fun k o _ _ _ _ _ h => (z _ k o h).elim, fun k o _ _ _ h => (z _ k o h).elim, fun k o _ _ _ h => (z _ k o h).elim, fun k o _ _ _ h => (z _ k o h).elim, fun k o _ _ _ h => (z _ k o h).elim⟩
  | succ m ih =>
    obtain ⟨a0, a1, a2, a3, a4, a5, a6, a7, a8, a9, a10, a11, a12, a13⟩ := ih
    have hlt : ∀ j, j ≤ N → K.1 j ≠ 0 → K.1 j ≠ 1 → j < N := fun j a b c => lt_of_t hN a b c
    have pb : ∀ s, (s = 20 ∨ s = 21) → ∀ a b, bl1 a → bl1 b → bl1 (opv s a b) ∧ ((s = 20 ∨ s = 21) → bl1 a ∧ bl1 b) := fun s hs a b ha hb => ⟨opv_b hs ha hb, fun _ => ⟨ha, hb⟩⟩
    have pn : ∀ s, (10 ≤ s ∧ s ≤ 16) → ∀ a b, bigI a → bigI b → bigI (opv s a b) ∧ ((s = 20 ∨ s = 21) → bl1 a ∧ bl1 b) := fun s hs a b ha hb => ⟨opv_n hs ha hb, fun z => by omega⟩
    have pair : ∀ (nt : Nat) (cc : Int), (10 ≤ cc ∧ cc ≤ 16) → (∀ k o, ps K ns (m + 1) nt k o = if K.1 k = 40 then (if o = 8 then flR K 5 k else sqR (ps K ns m 6 (k + 1) (o + 1)) (fun k => if K.1 k = 44 then sqR (ps K ns m 6 (k + 1) (o + 1)) (fun k => if K.1 k = 41 then okR (k + 1) [(cc, 0)] else flR K 1 k) else flR K 1 k)) else flR K 1 k) → SEf K ns N ev bigI (m + 1) nt 1 := by
      intro nt cc hcc e k o hk o0 o8 h
      rw [e] at h ⊢
      by_cases c : K.1 k = 40
      · rw [if_pos c] at h ⊢
        by_cases d : o = 8
        · rw [if_pos d] at h
          have h5 : (5 : Int) = 0 := h
          omega
        rw [if_neg d] at h ⊢
        have hkN := hlt k hk (by omega) (by omega)
        obtain ⟨b1, b2, b3, b4⟩ := sqR_i h
        have hv := ps_adv (ns := ns) hN m 6 (k + 1) (o + 1) (by omega) b1
        obtain ⟨x, px, hx⟩ := a6 (k + 1) (o + 1) (by omega) (by omega) (by omega) b1
        rw [b3, b4]
        have b2' : (if K.1 (ps K ns m 6 (k + 1) (o + 1)).2.1 = 44 then sqR (ps K ns m 6 ((ps K ns m 6 (k + 1) (o + 1)).2.1 + 1) (o + 1)) (fun k => if K.1 k = 41 then okR (k + 1) [(cc, 0)] else flR K 1 k) else flR K 1 (ps K ns m 6 (k + 1) (o + 1)).2.1).1 = 0 := b2
        show ∃ v, bigI v ∧ pu ev (3 * (8 - o) + 1) ((ps K ns m 6 (k + 1) (o + 1)).2.2.1 ++ (if K.1 (ps K ns m 6 (k + 1) (o + 1)).2.1 = 44 then sqR (ps K ns m 6 ((ps K ns m 6 (k + 1) (o + 1)).2.1 + 1) (o + 1)) (fun k => if K.1 k = 41 then okR (k + 1) [(cc, 0)] else flR K 1 k) else flR K 1 (ps K ns m 6 (k + 1) (o + 1)).2.1).2.2.1) ((ps K ns m 6 (k + 1) (o + 1)).2.2.2 ++ (if K.1 (ps K ns m 6 (k + 1) (o + 1)).2.1 = 44 then sqR (ps K ns m 6 ((ps K ns m 6 (k + 1) (o + 1)).2.1 + 1) (o + 1)) (fun k => if K.1 k = 41 then okR (k + 1) [(cc, 0)] else flR K 1 k) else flR K 1 (ps K ns m 6 (k + 1) (o + 1)).2.1).2.2.2) v
        generalize ps K ns m 6 (k + 1) (o + 1) = r1 at *
        by_cases c2 : K.1 r1.2.1 = 44
        · rw [if_pos c2] at b2' ⊢
          have hjN := hlt r1.2.1 hv.2.1 (by omega) (by omega)
          obtain ⟨d1, d2, d3, d4⟩ := sqR_i b2'
          obtain ⟨y, py, hy⟩ := a6 (r1.2.1 + 1) (o + 1) (by omega) (by omega) (by omega) d1
          rw [d3, d4]
          have d2' : (if K.1 (ps K ns m 6 (r1.2.1 + 1) (o + 1)).2.1 = 41 then okR ((ps K ns m 6 (r1.2.1 + 1) (o + 1)).2.1 + 1) [(cc, 0)] else flR K 1 (ps K ns m 6 (r1.2.1 + 1) (o + 1)).2.1).1 = 0 := d2
          show ∃ v, bigI v ∧ pu ev (3 * (8 - o) + 1) (r1.2.2.1 ++ ((ps K ns m 6 (r1.2.1 + 1) (o + 1)).2.2.1 ++ (if K.1 (ps K ns m 6 (r1.2.1 + 1) (o + 1)).2.1 = 41 then okR ((ps K ns m 6 (r1.2.1 + 1) (o + 1)).2.1 + 1) [(cc, 0)] else flR K 1 (ps K ns m 6 (r1.2.1 + 1) (o + 1)).2.1).2.2.1)) (r1.2.2.2 ++ ((ps K ns m 6 (r1.2.1 + 1) (o + 1)).2.2.2 ++ (if K.1 (ps K ns m 6 (r1.2.1 + 1) (o + 1)).2.1 = 41 then okR ((ps K ns m 6 (r1.2.1 + 1) (o + 1)).2.1 + 1) [(cc, 0)] else flR K 1 (ps K ns m 6 (r1.2.1 + 1) (o + 1)).2.1).2.2.2)) v
          by_cases c3 : K.1 (ps K ns m 6 (r1.2.1 + 1) (o + 1)).2.1 = 41
          · rw [if_pos c3]
            exact ⟨opv cc x y, opv_n hcc px py, pu_tu hx (tu_op hy (D := 3 * (8 - o) + 1) (by omega) (by omega) (fun z => by omega)) (by omega)⟩
          · rw [if_neg c3] at d2'
            have h1 : (1 : Int) = 0 := d2'
            omega
        · rw [if_neg c2] at b2'
          have h1 : (1 : Int) = 0 := b2'
          omega
      · rw [if_neg c] at h
        have h1 : (1 : Int) = 0 := h
        omega
    have brk : ∀ (q : Nat) (P : Int → Prop) (d1 d c : Int) (k o : Int), lpN q = 1 → d1 ≤ d + 3 → SEf K ns N ev P m q d1 → k < N → 0 ≤ o → o < 8 → (sqR (ps K ns m q (k + 1) (o + 1)) (fun j => if K.1 j = c then okR (j + 1) [] else flR K 1 j)).1 = 0 → ∃ v, P v ∧ pu ev (3 * (8 - o) + d) (sqR (ps K ns m q (k + 1) (o + 1)) (fun j => if K.1 j = c then okR (j + 1) [] else flR K 1 j)).2.2.1 (sqR (ps K ns m q (k + 1) (o + 1)) (fun j => if K.1 j = c then okR (j + 1) [] else flR K 1 j)).2.2.2 v := by
      intro q P d1 d c k o hq hd hS hk o0 o8 h
      obtain ⟨b1, b2, b3, b4⟩ := sqR_i h
      obtain ⟨x, px, hx⟩ := hS (k + 1) (o + 1) (by omega) (by omega) (by omega) b1
      rw [b3, b4]
      have b2' : (if K.1 (ps K ns m q (k + 1) (o + 1)).2.1 = c then okR ((ps K ns m q (k + 1) (o + 1)).2.1 + 1) [] else flR K 1 (ps K ns m q (k + 1) (o + 1)).2.1).1 = 0 := b2
      show ∃ v, P v ∧ pu ev (3 * (8 - o) + d) ((ps K ns m q (k + 1) (o + 1)).2.2.1 ++ (if K.1 (ps K ns m q (k + 1) (o + 1)).2.1 = c then okR ((ps K ns m q (k + 1) (o + 1)).2.1 + 1) [] else flR K 1 (ps K ns m q (k + 1) (o + 1)).2.1).2.2.1) ((ps K ns m q (k + 1) (o + 1)).2.2.2 ++ (if K.1 (ps K ns m q (k + 1) (o + 1)).2.1 = c then okR ((ps K ns m q (k + 1) (o + 1)).2.1 + 1) [] else flR K 1 (ps K ns m q (k + 1) (o + 1)).2.1).2.2.2) v
      by_cases c2 : K.1 (ps K ns m q (k + 1) (o + 1)).2.1 = c
      · rw [if_pos c2]
        refine ⟨x, px, ?_⟩
        show pu ev (3 * (8 - o) + d) ((ps K ns m q (k + 1) (o + 1)).2.2.1 ++ []) ((ps K ns m q (k + 1) (o + 1)).2.2.2 ++ []) x
        rw [List.append_nil, List.append_nil]
        exact fun lim st hl => hx lim st (by omega)
      · rw [if_neg c2] at b2'
        have h1 : (1 : Int) = 0 := b2'
        omega
    refine ⟨?_, ?_, ?_, ?_, ?_, ?_, ?_, ?_, ?_, ?_, ?_, ?_, pair 12 15 (by decide) (fun _ _ => rfl), pair 13 16 (by decide) (fun _ _ => rfl)⟩
    · intro k o hk o0 o8 h
      exact SE_two hN rfl (by decide) a2 a1 hk o0 o8 h
    · intro k o a hk o0 o8 ha h
      have e : ps K ns (m + 1) 1 k o = if K.1 k = 271 then sqR (sqR (ps K ns m 2 (k + 1) o) (fun k => okR k [(21, 0)])) (fun k => ps K ns m 1 k o) else okR k [] := rfl
      rw [e] at h ⊢
      by_cases c : K.1 k = 271
      · rw [if_pos c] at h ⊢
        exact SE_go hN rfl (by decide) (by decide) (pb 21 (by decide)) a2 a1 (hlt k hk (by omega) (by omega)) o0 o8 ha h
      · rw [if_neg c]; exact SE_stop ha
    · intro k o hk o0 o8 h
      exact SE_two hN rfl (by decide) a4 a3 hk o0 o8 h
    · intro k o a hk o0 o8 ha h
      have e : ps K ns (m + 1) 3 k o = if K.1 k = 272 then sqR (sqR (ps K ns m 4 (k + 1) o) (fun k => okR k [(20, 0)])) (fun k => ps K ns m 3 k o) else okR k [] := rfl
      rw [e] at h ⊢
      by_cases c : K.1 k = 272
      · rw [if_pos c] at h ⊢
        exact SE_go hN rfl (by decide) (by decide) (pb 20 (by decide)) a4 a3 (hlt k hk (by omega) (by omega)) o0 o8 ha h
      · rw [if_neg c]; exact SE_stop ha
    · intro k o hk o0 o8 h
      have e : ps K ns (m + 1) 4 k o = ntR (ntC K.1 2000 k) (ps K ns m 11 (k + ntC K.1 2000 k) o) := rfl
      rw [e] at h ⊢
      have hc := ntC_r (ty := K.1) (N := N) (by unfold lsT at hN; omega) 2000 k hk
      unfold ntR at h ⊢
      by_cases z : (ps K ns m 11 (k + ntC K.1 2000 k) o).1 = 0
      · rw [if_pos z]
        obtain ⟨x, px, hx⟩ := a11 (k + ntC K.1 2000 k) o hc o0 o8 z
        refine ⟨ntv (ntC K.1 2000 k) x, ntv_b px, fun lim st hl => ⟨runW_2 (hx lim st hl).1 (run_nots _ _ px), runW_2 (hx lim st hl).2 ?_⟩⟩
        by_cases y : ntC K.1 2000 k % 2 = 1
        · have ey : ntv (ntC K.1 2000 k) x = 1 - x := by unfold ntv; rw [if_pos y]
          rw [if_pos y, ey]; exact stW_n px
        · have ey : ntv (ntC K.1 2000 k) x = x := by unfold ntv; rw [if_neg y]
          rw [if_neg y, ey]; rfl
      · rw [if_neg z] at h; exact absurd h z
    · intro k o hk o0 o8 h
      have e : ps K ns (m + 1) 5 k o = sqR (ps K ns m 6 k o) (fun k => if K.1 k = 60 then sqR (ps K ns m 6 (k + 1) o) (fun k => okR k [(17, 0)]) else if K.1 k = 62 then sqR (ps K ns m 6 (k + 1) o) (fun k => okR k [(18, 0)]) else if K.1 k = 61 then sqR (ps K ns m 6 (k + 1) o) (fun k => okR k [(19, 0)]) else flR K 1 k) := rfl
      rw [e] at h ⊢
      obtain ⟨b1, b2, b3, b4⟩ := sqR_i h
      have hv := ps_adv (ns := ns) hN m 6 k o hk b1
      obtain ⟨x, px, hx⟩ := a6 k o hk o0 o8 b1
      rw [b3, b4]
      have one : ∀ (s : Int), (17 ≤ s ∧ s ≤ 19) → K.1 (ps K ns m 6 k o).2.1 ≠ 0 → K.1 (ps K ns m 6 k o).2.1 ≠ 1 → (sqR (ps K ns m 6 ((ps K ns m 6 k o).2.1 + 1) o) (fun k => okR k [(s, 0)])).1 = 0 → ∃ v, bl1 v ∧ pu ev (3 * (8 - o) + 4) ((ps K ns m 6 k o).2.2.1 ++ (sqR (ps K ns m 6 ((ps K ns m 6 k o).2.1 + 1) o) (fun k => okR k [(s, 0)])).2.2.1) ((ps K ns m 6 k o).2.2.2 ++ (sqR (ps K ns m 6 ((ps K ns m 6 k o).2.1 + 1) o) (fun k => okR k [(s, 0)])).2.2.2) v := by
        intro s hs h1 h2 h3
        have hjN := hlt _ hv.2.1 h1 h2
        obtain ⟨d1, -, -, -⟩ := sqR_i h3
        obtain ⟨y, py, hy⟩ := a6 ((ps K ns m 6 k o).2.1 + 1) o (by omega) o0 o8 d1
        rw [sqR_ok d1]
        exact ⟨opv s x y, opv_c hs, pu_tu hx (tu_op hy (D := 3 * (8 - o) + 4) (by omega) (by omega) (fun z => by omega)) (by omega)⟩
      have b2' : (if K.1 (ps K ns m 6 k o).2.1 = 60 then sqR (ps K ns m 6 ((ps K ns m 6 k o).2.1 + 1) o) (fun k => okR k [(17, 0)]) else if K.1 (ps K ns m 6 k o).2.1 = 62 then sqR (ps K ns m 6 ((ps K ns m 6 k o).2.1 + 1) o) (fun k => okR k [(18, 0)]) else if K.1 (ps K ns m 6 k o).2.1 = 61 then sqR (ps K ns m 6 ((ps K ns m 6 k o).2.1 + 1) o) (fun k => okR k [(19, 0)]) else flR K 1 (ps K ns m 6 k o).2.1).1 = 0 := b2
      show ∃ v, bl1 v ∧ pu ev (3 * (8 - o) + 4) ((ps K ns m 6 k o).2.2.1 ++ (if K.1 (ps K ns m 6 k o).2.1 = 60 then sqR (ps K ns m 6 ((ps K ns m 6 k o).2.1 + 1) o) (fun k => okR k [(17, 0)]) else if K.1 (ps K ns m 6 k o).2.1 = 62 then sqR (ps K ns m 6 ((ps K ns m 6 k o).2.1 + 1) o) (fun k => okR k [(18, 0)]) else if K.1 (ps K ns m 6 k o).2.1 = 61 then sqR (ps K ns m 6 ((ps K ns m 6 k o).2.1 + 1) o) (fun k => okR k [(19, 0)]) else flR K 1 (ps K ns m 6 k o).2.1).2.2.1) ((ps K ns m 6 k o).2.2.2 ++ (if K.1 (ps K ns m 6 k o).2.1 = 60 then sqR (ps K ns m 6 ((ps K ns m 6 k o).2.1 + 1) o) (fun k => okR k [(17, 0)]) else if K.1 (ps K ns m 6 k o).2.1 = 62 then sqR (ps K ns m 6 ((ps K ns m 6 k o).2.1 + 1) o) (fun k => okR k [(18, 0)]) else if K.1 (ps K ns m 6 k o).2.1 = 61 then sqR (ps K ns m 6 ((ps K ns m 6 k o).2.1 + 1) o) (fun k => okR k [(19, 0)]) else flR K 1 (ps K ns m 6 k o).2.1).2.2.2) v
      by_cases c1 : K.1 (ps K ns m 6 k o).2.1 = 60
      · rw [if_pos c1] at b2' ⊢; exact one 17 (by decide) (by omega) (by omega) b2'
      rw [if_neg c1] at b2' ⊢
      by_cases c2 : K.1 (ps K ns m 6 k o).2.1 = 62
      · rw [if_pos c2] at b2' ⊢; exact one 18 (by decide) (by omega) (by omega) b2'
      rw [if_neg c2] at b2' ⊢
      by_cases c3 : K.1 (ps K ns m 6 k o).2.1 = 61
      · rw [if_pos c3] at b2' ⊢; exact one 19 (by decide) (by omega) (by omega) b2'
      · rw [if_neg c3] at b2'
        have h1 : (1 : Int) = 0 := b2'
        omega
    · intro k o hk o0 o8 h
      exact SE_two hN rfl (by decide) a8 a7 hk o0 o8 h
    · intro k o a hk o0 o8 ha h
      have e : ps K ns (m + 1) 7 k o = if K.1 k = 43 then sqR (sqR (ps K ns m 8 (k + 1) o) (fun k => okR k [(10, 0)])) (fun k => ps K ns m 7 k o) else if K.1 k = 45 then sqR (sqR (ps K ns m 8 (k + 1) o) (fun k => okR k [(11, 0)])) (fun k => ps K ns m 7 k o) else okR k [] := rfl
      rw [e] at h ⊢
      by_cases c : K.1 k = 43
      · rw [if_pos c] at h ⊢
        exact SE_go hN rfl (by decide) (by decide) (pn 10 (by decide)) a8 a7 (hlt k hk (by omega) (by omega)) o0 o8 ha h
      rw [if_neg c] at h ⊢
      by_cases c2 : K.1 k = 45
      · rw [if_pos c2] at h ⊢
        exact SE_go hN rfl (by decide) (by decide) (pn 11 (by decide)) a8 a7 (hlt k hk (by omega) (by omega)) o0 o8 ha h
      · rw [if_neg c2]; exact SE_stop ha
    · intro k o hk o0 o8 h
      exact SE_two hN rfl (by decide) a10 a9 hk o0 o8 h
    · intro k o a hk o0 o8 ha h
      have e : ps K ns (m + 1) 9 k o = if K.1 k = 42 then sqR (sqR (ps K ns m 10 (k + 1) o) (fun k => okR k [(12, 0)])) (fun k => ps K ns m 9 k o) else if K.1 k = 47 then sqR (sqR (ps K ns m 10 (k + 1) o) (fun k => okR k [(13, 0)])) (fun k => ps K ns m 9 k o) else if K.1 k = 37 then sqR (sqR (ps K ns m 10 (k + 1) o) (fun k => okR k [(14, 0)])) (fun k => ps K ns m 9 k o) else okR k [] := rfl
      rw [e] at h ⊢
      by_cases c : K.1 k = 42
      · rw [if_pos c] at h ⊢
        exact SE_go hN rfl (by decide) (by decide) (pn 12 (by decide)) a10 a9 (hlt k hk (by omega) (by omega)) o0 o8 ha h
      rw [if_neg c] at h ⊢
      by_cases c2 : K.1 k = 47
      · rw [if_pos c2] at h ⊢
        exact SE_go hN rfl (by decide) (by decide) (pn 13 (by decide)) a10 a9 (hlt k hk (by omega) (by omega)) o0 o8 ha h
      rw [if_neg c2] at h ⊢
      by_cases c3 : K.1 k = 37
      · rw [if_pos c3] at h ⊢
        exact SE_go hN rfl (by decide) (by decide) (pn 14 (by decide)) a10 a9 (hlt k hk (by omega) (by omega)) o0 o8 ha h
      · rw [if_neg c3]; exact SE_stop ha
    · intro k o hk o0 o8 h
      have e : ps K ns (m + 1) 10 k o = (if K.1 k = 40 then (if o = 8 then flR K 5 k else sqR (ps K ns m 6 (k + 1) (o + 1)) (fun k => if K.1 k = 41 then okR (k + 1) [] else flR K 1 k))
        else if K.1 k = 3 then okR (k + 1) [(0, K.2.2.2 k)] else if K.1 k = 274 then okR (k + 1) [(1, 0)] else if K.1 k = 275 then okR (k + 1) [(2, 0)] else if K.1 k = 276 then okR (k + 1) [(3, 0)]
        else if K.1 k = 277 then ps K ns m 12 (k + 1) o else if K.1 k = 278 then ps K ns m 13 (k + 1) o
        else if K.1 k = 2 then (if pixF (K.2.2.1 k) ns 0 = -1 then flR K 3 k else okR (k + 1) [(4 + pixF (K.2.2.1 k) ns 0, 0)]) else flR K 1 k) := rfl
      rw [e] at h ⊢
      by_cases c : K.1 k = 40
      · rw [if_pos c] at h ⊢
        by_cases d : o = 8
        · rw [if_pos d] at h
          have h5 : (5 : Int) = 0 := h
          omega
        rw [if_neg d] at h ⊢
        exact brk 6 bigI 3 1 41 k o rfl (by decide) a6 (hlt k hk (by omega) (by omega)) o0 (by omega) h
      rw [if_neg c] at h ⊢
      by_cases c1 : K.1 k = 3
      · rw [if_pos c1]
        exact ⟨K.2.2.2 k, hnu k hk c1, SE_push (show (0 : Int) ≤ 9 by decide) (by omega) rfl⟩
      rw [if_neg c1] at h ⊢
      by_cases c2 : K.1 k = 274
      · rw [if_pos c2]
        exact ⟨ev 1, hev 1 (by decide) (by decide), SE_push (by decide) (by omega) rfl⟩
      rw [if_neg c2] at h ⊢
      by_cases c3 : K.1 k = 275
      · rw [if_pos c3]
        exact ⟨ev 2, hev 2 (by decide) (by decide), SE_push (by decide) (by omega) rfl⟩
      rw [if_neg c3] at h ⊢
      by_cases c4 : K.1 k = 276
      · rw [if_pos c4]
        exact ⟨ev 3, hev 3 (by decide) (by decide), SE_push (by decide) (by omega) rfl⟩
      rw [if_neg c4] at h ⊢
      by_cases c5 : K.1 k = 277
      · rw [if_pos c5] at h ⊢
        have := hlt k hk (by omega) (by omega)
        exact a12 (k + 1) o (by omega) o0 o8 h
      rw [if_neg c5] at h ⊢
      by_cases c6 : K.1 k = 278
      · rw [if_pos c6] at h ⊢
        have := hlt k hk (by omega) (by omega)
        exact a13 (k + 1) o (by omega) o0 o8 h
      rw [if_neg c6] at h ⊢
      by_cases c7 : K.1 k = 2
      · rw [if_pos c7] at h ⊢
        by_cases d : pixF (K.2.2.1 k) ns 0 = -1
        · rw [if_pos d] at h
          have h3 : (3 : Int) = 0 := h
          omega
        · rw [if_neg d]
          have hp := pixF_r (K.2.2.1 k) ns 0
          refine ⟨ev (4 + pixF (K.2.2.1 k) ns 0), hev _ (by omega) (by omega), SE_push (by show 4 + pixF (K.2.2.1 k) ns 0 ≤ 9; omega) (by omega) ?_⟩
          show (if 4 + pixF (K.2.2.1 k) ns 0 = 0 then 0 else if 4 + pixF (K.2.2.1 k) ns 0 = 9 then 1 else ev (4 + pixF (K.2.2.1 k) ns 0)) = _
          rw [if_neg (by omega), if_neg (by omega)]
      · rw [if_neg c7] at h
        have h1 : (1 : Int) = 0 := h
        omega
    · intro k o hk o0 o8 h
      have e : ps K ns (m + 1) 11 k o = (if K.1 k = 91 then (if o = 8 then flR K 5 k else sqR (ps K ns m 0 (k + 1) (o + 1)) (fun k => if K.1 k = 93 then okR (k + 1) [] else flR K 1 k)) else if K.1 k = 273 then okR (k + 1) [(9, 0)] else ps K ns m 5 k o) := rfl
      rw [e] at h ⊢
      by_cases c : K.1 k = 91
      · rw [if_pos c] at h ⊢
        by_cases d : o = 8
        · rw [if_pos d] at h
          have h5 : (5 : Int) = 0 := h
          omega
        rw [if_neg d] at h ⊢
        exact brk 0 bl1 6 4 93 k o rfl (by decide) a0 (hlt k hk (by omega) (by omega)) o0 (by omega) h
      rw [if_neg c] at h ⊢
      by_cases c1 : K.1 k = 273
      · rw [if_pos c1]
        exact ⟨1, Or.inr rfl, SE_push (by decide) (by omega) rfl⟩
      · rw [if_neg c1] at h ⊢
        exact a5 k o hk o0 o8 h
