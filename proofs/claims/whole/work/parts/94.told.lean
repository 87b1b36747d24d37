/-! the game that is told -/
def rlQ (s : GS) (r : Int) : RU := s.2.2.2.getD r.toNat dRU
def pcQ (s : GS) (k : Int) : List Int × Int × Int := s.2.1.getD k.toNat ([], 0, 0)
def gmQ (s : GS) : GM := (fun k => if k = 0 then s.1 else if k = 1 then s.2.1.length else if k = 2 then s.2.2.2.length else s.2.2.1, fun k i => if k = 0 then (pcQ s i).2.1 else if k = 1 then (pcQ s i).2.2 else if k = 2 then (rlQ s i).1 else if k = 3 then (rlQ s i).2.2.1 else if k = 4 then (rlQ s i).2.2.2.1 else if k = 5 then (rlQ s i).2.2.2.2.1 else (rlQ s i).2.1, fun r a b c d e => if runW 30 (evF a b c d e) (rlQ s r).2.2.2.2.2.1 [] = some [1] then 1 else 0, fun k j => if 0 ≤ j ∧ j < ((pcQ s k).1.length : Int) then (pcQ s k).1.getD j.toNat 0 else -1)
theorem gq_F (s : GS) : qF (gmQ s) = s.1 := rfl
theorem gq_P (s : GS) : qP (gmQ s) = s.2.1.length := rfl
theorem gq_R (s : GS) : qR (gmQ s) = s.2.2.2.length := rfl
theorem gq_U (s : GS) : qU (gmQ s) = s.2.2.1 := rfl
theorem gq_S (s : GS) (k : Int) : qS (gmQ s) k = (pcQ s k).2.1 := rfl
theorem gq_O (s : GS) (k : Int) : qO (gmQ s) k = (pcQ s k).2.2 := rfl
theorem gq_K (s : GS) (k : Int) : qK (gmQ s) k = (rlQ s k).1 := rfl
theorem gq_I (s : GS) (k : Int) : qI (gmQ s) k = (rlQ s k).2.2.1 := rfl
theorem gq_W (s : GS) (k : Int) : qW (gmQ s) k = (rlQ s k).2.2.2.1 := rfl
theorem gq_N (s : GS) (k : Int) : qN (gmQ s) k = (rlQ s k).2.2.2.2.1 := rfl
theorem gq_E (s : GS) (k : Int) : qE (gmQ s) k = (rlQ s k).2.1 := rfl
theorem gq_T (s : GS) (r a b c d e : Int) : qT (gmQ s) r a b c d e = if runW 30 (evF a b c d e) (rlQ s r).2.2.2.2.2.1 [] = some [1] then 1 else 0 := rfl
theorem getD_i {α : Type} {l : List α} {i : Nat} {d : α} (h : i < l.length) : l.getD i d ∈ l := by
  rw [List.getD_eq_getElem?_getD, List.getElem?_eq_getElem h]
  exact List.getElem_mem _
theorem rlQ_m {s : GS} {k r : Int} (h : gsO s k) (h0 : 0 ≤ r) (h1 : r < s.2.2.2.length) : rlO (nsG s) (rlQ s r) := h.2.2.2.2.2.1 _ (getD_i (by omega))
theorem pcQ_m {s : GS} {k r : Int} (h : gsO s k) (h0 : 0 ≤ r) (h1 : r < s.2.1.length) : nmL (pcQ s r).1 ∧ (0 ≤ (pcQ s r).2.1 ∧ (pcQ s r).2.1 < s.1) ∧ 0 ≤ (pcQ s r).2.2 ∧ (pcQ s r).2.2 ≤ 2 := h.2.2.1 _ (getD_i (by omega))
theorem GOK_q {s : GS} {k : Int} (h : gsO s k) : GOK (gmQ s) := by
  have hl := nsG_l s
  refine ⟨?_, ?_, ?_, ?_, ?_, ?_, ?_, ?_, ?_, ?_⟩
  · rw [gq_F]; have := h.1; omega
  · rw [gq_P]; have := h.2.1; omega
  · rw [gq_R]; have := h.2.2.2.2.1; omega
  · rw [gq_U]; exact h.2.2.2.1
  · rw [gq_F]; intro z; have := h.1; omega
  · intro r r0 r1
    rw [gq_P] at r1
    rw [gq_S, gq_O, gq_F]
    have := pcQ_m h r0 r1
    exact ⟨this.2.1.1, this.2.1.2, this.2.2.1, this.2.2.2⟩
  · intro r r0 r1
    rw [gq_R] at r1
    rw [gq_E, gq_K, gq_I, gq_W, gq_N, gq_P]
    obtain ⟨a1, a2, a3, a4, -⟩ := rlQ_m h r0 r1
    refine ⟨a2, a1.1, a1.2, fun z => ?_, a4⟩
    have := a3 z
    rw [hl] at this
    exact ⟨this.1.1, this.1.2, this.2.1.1, this.2.1.2, this.2.2.2, this.2.2.1⟩
  · intro r a b c d e
    rw [gq_T]
    by_cases z : runW 30 (evF a b c d e) (rlQ s r).2.2.2.2.2.1 [] = some [1]
    · rw [if_pos z]; exact Or.inr rfl
    · rw [if_neg z]; exact Or.inl rfl
  · intro r a b c d e f r0 r1 hp
    rw [gq_R] at r1
    rw [gq_P] at hp
    obtain ⟨-, -, -, -, v, -, a6, -⟩ := rlQ_m h r0 r1
    rw [gq_T, gq_T, runW_ev (ns := nsG s) (ev := evF a b c d e) (ev' := evF a b c d f) (fun q q0 q1 => ?_) (by rw [hl]; exact h.2.1) _ _ a6]
    rw [hl] at q1
    unfold evF
    by_cases z1 : q = 1
    · rw [if_pos z1, if_pos z1]
    rw [if_neg z1, if_neg z1]
    by_cases z2 : q = 2
    · rw [if_pos z2, if_pos z2]
    rw [if_neg z2, if_neg z2]
    by_cases z3 : q = 3
    · rw [if_pos z3, if_pos z3]
    rw [if_neg z3, if_neg z3, if_pos (show q = 4 by omega), if_pos (show q = 4 by omega)]
  · intro r a b c d e d' e' r0 r1 hp
    rw [gq_R] at r1
    rw [gq_P] at hp
    obtain ⟨-, -, -, -, v, -, a6, -⟩ := rlQ_m h r0 r1
    rw [gq_T, gq_T, runW_ev (ns := nsG s) (ev := evF a b c d e) (ev' := evF a b c d' e') (fun q q0 q1 => ?_) (by rw [hl]; exact h.2.1) _ _ a6]
    rw [hl] at q1
    unfold evF
    by_cases z1 : q = 1
    · rw [if_pos z1, if_pos z1]
    rw [if_neg z1, if_neg z1]
    by_cases z2 : q = 2
    · rw [if_pos z2, if_pos z2]
    rw [if_neg z2, if_neg z2, if_pos (show q = 3 by omega), if_pos (show q = 3 by omega)]
/-- what a test gives, whatever the room -/
theorem gq_run {s : GS} {k r : Int} (h : gsO s k) (h0 : 0 ≤ r) (h1 : r < s.2.2.2.length) {ev : Int → Int} {a b c d e : Int} (hev : ∀ q : Int, 1 ≤ q → q ≤ 3 + (s.2.1.length : Int) → ev q = evF a b c d e q) (hb : ∀ q : Int, 1 ≤ q → q ≤ 3 + (s.2.1.length : Int) → bigI (evF a b c d e q)) : bl1 (qT (gmQ s) r a b c d e) ∧ ∀ lim : Int, 30 ≤ lim → runW lim ev (rlQ s r).2.2.2.2.2.1 [] = some [qT (gmQ s) r a b c d e] ∧ runW lim ev (rlQ s r).2.2.2.2.2.2 [] = some [qT (gmQ s) r a b c d e] := by
  have hl := nsG_l s
  have hl2 := h.2.1
  obtain ⟨-, -, -, -, v, a5, a6, a7⟩ := rlQ_m h h0 h1
  have hE : ∀ q : Int, 1 ≤ q → q ≤ 3 + ((nsG s).length : Int) → ev q = (fun q => if q ≤ 3 + (s.2.1.length : Int) then ev q else 0) q := fun q q0 q1 => by
    rw [hl] at q1
    show ev q = if q ≤ 3 + (s.2.1.length : Int) then ev q else 0
    rw [if_pos q1]
  have hE2 : ∀ q : Int, 1 ≤ q → q ≤ 3 + ((nsG s).length : Int) → evF a b c d e q = (fun q => if q ≤ 3 + (s.2.1.length : Int) then ev q else 0) q := fun q q0 q1 => by
    rw [← hE q q0 q1, hev q q0 (by rw [hl] at q1; exact q1)]
  obtain ⟨c1, c2⟩ := a5 (fun q => if q ≤ 3 + (s.2.1.length : Int) then ev q else 0) (fun q q0 q1 => by
    show bigI (if q ≤ 3 + (s.2.1.length : Int) then ev q else 0)
    by_cases z : q ≤ 3 + (s.2.1.length : Int)
    · rw [if_pos z, hev q q0 z]; exact hb q q0 z
    · rw [if_neg z]; exact ⟨by decide, by decide⟩)
  have hT : qT (gmQ s) r a b c d e = v (fun q => if q ≤ 3 + (s.2.1.length : Int) then ev q else 0) := by
    rw [gq_T, runW_ev hE2 (by rw [hl]; exact hl2) _ _ a6, (c2 30 (by decide)).1]
    rcases c1 with z | z
    · rw [z, if_neg (by decide)]
    · rw [z, if_pos rfl]
  rw [hT]
  refine ⟨c1, fun lim hlim => ?_⟩
  rw [runW_ev hE (by rw [hl]; exact hl2) _ _ a6, runW_ev hE (by rw [hl]; exact hl2) _ _ a7]
  exact c2 lim hlim
theorem fm_at (f : RU → CDs) : ∀ (rs : List RU) (r : Nat), r < rs.length → (∃ t, rs.flatMap f = (rs.take r).flatMap f ++ (f (rs.getD r dRU) ++ t)) ∧ ((rs.take (r + 1)).flatMap f).length = ((rs.take r).flatMap f).length + (f (rs.getD r dRU)).length := by
  intro rs
  induction rs with
  | nil => intro r h; exact absurd h (Nat.not_lt_zero r)
  | cons x rs ih =>
    intro r h
    cases r with
    | zero =>
      refine ⟨⟨rs.flatMap f, ?_⟩, ?_⟩
      · show (x :: rs).flatMap f = [] ++ (f x ++ rs.flatMap f)
        rw [List.flatMap_cons, List.nil_append]
      · show ([x].flatMap f).length = 0 + (f x).length
        rw [List.flatMap_cons, List.flatMap_nil, List.append_nil]; omega
    | succ r =>
      obtain ⟨⟨t, h1⟩, h2⟩ := ih r (by simp only [List.length_cons] at h; omega)
      refine ⟨⟨t, ?_⟩, ?_⟩
      · show (x :: rs).flatMap f = (x :: rs.take r).flatMap f ++ (f (rs.getD r dRU) ++ t)
        rw [List.flatMap_cons, List.flatMap_cons, h1, List.append_assoc]
      · show ((x :: rs.take (r + 1)).flatMap f).length = ((x :: rs.take r).flatMap f).length + (f (rs.getD r dRU)).length
        rw [List.flatMap_cons, List.flatMap_cons, List.length_append, List.length_append, h2]; omega
theorem fm_g (f : RU → CDs) (rs : List RU) (r i : Nat) (hr : r < rs.length) (hi : i < (f (rs.getD r dRU)).length) : ((rs.take r).flatMap f).length + i < (rs.flatMap f).length ∧ (rs.flatMap f).getD (((rs.take r).flatMap f).length + i) (0, 0) = (f (rs.getD r dRU)).getD i (0, 0) := by
  obtain ⟨⟨t, h1⟩, -⟩ := fm_at f rs r hr
  rw [h1]
  generalize f (rs.getD r dRU) = w at *
  refine ⟨by simp only [List.length_append]; omega, ?_⟩
  rw [List.getD_eq_getElem?_getD, List.getElem?_append_right (by omega), Nat.add_sub_cancel_left, List.getElem?_append_left hi, List.getD_eq_getElem?_getD]
theorem fm_le (f : RU → CDs) (rs : List RU) (r : Nat) (hr : r < rs.length) : ((rs.take (r + 1)).flatMap f).length ≤ (rs.flatMap f).length := by
  obtain ⟨⟨t, h1⟩, h2⟩ := fm_at f rs r hr
  rw [h1, h2]
  simp only [List.length_append]
  omega
theorem rG_q {s : GS} {b : Int} {V : ASt} (hb : b = 0 ∨ b = 1) (h : gmB b s V) (h12 : V 142 12 = b) : rG (gmQ s) b V := by
  obtain ⟨g1, g2, g5, g6, g7, g8, g9⟩ := h
  refine ⟨h12, hb, g1, ?_, g6, g7, fun k k0 k1 => ?_, fun r r0 r1 => ?_⟩
  · rw [gq_P, g2.1, nsG_l]
  · rw [gq_P] at k1
    have := g5 k.toNat (by omega)
    rw [show ((k.toNat : Nat) : Int) = k by omega] at this
    exact this
  · rw [gq_R] at r1
    have := g8 r.toNat (by omega)
    rw [show ((r.toNat : Nat) : Int) = r by omega] at this
    exact ⟨this.1, this.2.2.1, this.2.2.2.1, this.2.2.2.2.1, this.2.1⟩
theorem rL_q {s : GS} {b : Int} {V : ASt} (h : gmB b s V) : rL (gmQ s) b V := by
  intro k k0 k1
  rw [gq_P] at k1
  have := h.2.1.2.2 k.toNat (by rw [nsG_l]; omega)
  rw [show ((k.toNat : Nat) : Int) = k by omega] at this
  have e : (nsG s).getD k.toNat [] = (pcQ s k).1 := getD_m (by omega)
  rw [e] at this
  exact ⟨(pcQ s k).1, this.2, fun j => rfl, this.1⟩
theorem rT_q {s : GS} {b k : Int} {V : ASt} (hb : b = 0 ∨ b = 1) (hs : gsO s k) (hk : k ≤ 1800) (h : gmB b s V) : rT (gmQ s) b V := by
  intro r r0 r1 W hW h12 hm
  rw [gq_R] at r1
  rw [gq_P] at hm
  have hl := nsG_l s
  have hl2 := hs.2.1
  obtain ⟨-, -, -, -, -, g8, g9⟩ := h
  obtain ⟨-, -, -, -, -, hf, ht⟩ := g8 r.toNat (by omega)
  rw [show ((r.toNat : Nat) : Int) = r by omega] at hf ht
  have hcw : ((cwR s.2.2.2).length : Int) ≤ k := hs.2.2.2.2.2.2.1
  have hat : ((s.2.2.2.take (r.toNat + 1)).flatMap (fun r => r.2.2.2.2.2.1)).length = ((s.2.2.2.take r.toNat).flatMap (fun r => r.2.2.2.2.2.1)).length + (rlQ s r).2.2.2.2.2.1.length := (fm_at (fun r => r.2.2.2.2.2.1) s.2.2.2 r.toNat (by omega)).2
  have hle := fm_le (fun r => r.2.2.2.2.2.1) s.2.2.2 r.toNat (by omega)
  have hga : ∀ i : Nat, i < (rlQ s r).2.2.2.2.2.1.length → ((s.2.2.2.take r.toNat).flatMap (fun r => r.2.2.2.2.2.1)).length + i < (s.2.2.2.flatMap (fun r => r.2.2.2.2.2.1)).length ∧ (s.2.2.2.flatMap (fun r => r.2.2.2.2.2.1)).getD (((s.2.2.2.take r.toNat).flatMap (fun r => r.2.2.2.2.2.1)).length + i) (0, 0) = (rlQ s r).2.2.2.2.2.1.getD i (0, 0) := fun i hi => fm_g (fun r => r.2.2.2.2.2.1) s.2.2.2 r.toNat i (by omega) hi
  have hcw' : ((s.2.2.2.flatMap (fun r => r.2.2.2.2.2.1)).length : Int) ≤ k := hcw
  have hf' : V 156 (12 * b + r) = ((s.2.2.2.take r.toNat).flatMap (fun r => r.2.2.2.2.2.1)).length := hf
  have ht' : V 157 (12 * b + r) = ((s.2.2.2.take (r.toNat + 1)).flatMap (fun r => r.2.2.2.2.2.1)).length := ht
  rw [hf', ht', hat]
  rw [hat] at hle
  have hcd : ∀ i : Nat, i < (s.2.2.2.flatMap (fun r => r.2.2.2.2.2.1)).length → V 158 (1800 * b + i) = ((s.2.2.2.flatMap (fun r => r.2.2.2.2.2.1)).getD i (0, 0)).1 ∧ V 159 (1800 * b + i) = ((s.2.2.2.flatMap (fun r => r.2.2.2.2.2.1)).getD i (0, 0)).2 := g9.2
  generalize hfr : ((s.2.2.2.take r.toNat).flatMap (fun r => r.2.2.2.2.2.1)).length = fr at *
  generalize hbig : s.2.2.2.flatMap (fun r => r.2.2.2.2.2.1) = big at *
  have hq : ∀ q : Int, 1 ≤ q → q ≤ 3 + (s.2.1.length : Int) → W 168 q = evF (W 168 1) (W 168 2) (W 168 3) (W 168 4) (W 168 5) q := by
    intro q q0 q1
    have : q = 1 ∨ q = 2 ∨ q = 3 ∨ q = 4 ∨ q = 5 := by omega
    rcases this with e | e | e | e | e <;> subst e <;> rfl
  obtain ⟨cb, crun⟩ := gq_run hs r0 r1 (ev := W 168) (a := W 168 1) (b := W 168 2) (c := W 168 3) (d := W 168 4) (e := W 168 5) hq (fun q q0 q1 => by rw [← hq q q0 q1]; have := hm q q0 q1; exact ⟨by omega, by omega⟩)
  have hwl : (rlQ s r).2.2.2.2.2.1.length ≤ 1800 := by omega
  obtain ⟨-, -, -, -, v, -, a6, -⟩ := rlQ_m hs r0 r1
  unfold f_M_works
  rw [gd_t O_142, h12, w32_id (x := 1800 * b) (by omega) (by omega), w32_id (x := 1800 * b + (fr : Int)) (by omega) (by omega)]
  have key := M_run (b := b) (to := ((fr + (rlQ s r).2.2.2.2.2.1.length : Nat) : Int)) (ns := nsG s) (ev := W 168) (Q := fun x U => x = qT (gmQ s) r (W 168 1) (W 168 2) (W 168 3) (W 168 4) (W 168 5) ∧ ∀ a, a ≠ 167 → U a = W a) (V := W) hb h12 (by omega) (by rw [hl]; exact hl2) (fun q q0 q1 => ⟨by rw [hl] at q1; have := hm q q0 q1; exact ⟨by omega, by omega⟩, rfl⟩) (rlQ s r).2.2.2.2.2.1 [] [qT (gmQ s) r (W 168 1) (W 168 2) (W 168 3) (W 168 4) (W 168 5)] (fr : Int) W (99999 - (rlQ s r).2.2.2.2.2.1.length + 1) (crun 1850 (by decide)).1 a6 (fun x hx => by cases hx) (fun a _ => rfl) trivial (fun i hi => ?_) (by omega) (by omega) (by simp) (fun W' fW' sW' => ?_)
  · rw [show 99999 - (rlQ s r).2.2.2.2.2.1.length + 1 + (rlQ s r).2.2.2.2.2.1.length = FU by rw [FU_v]; omega] at key
    exact key
  · obtain ⟨j1, j2⟩ := hga i hi
    have := hcd (fr + i) j1
    rw [j2] at this
    have hWj := hW (1800 * b + ((fr + i : Nat) : Int)) (by omega) (by omega)
    rw [show 1800 * b + (fr : Int) + (i : Int) = 1800 * b + ((fr + i : Nat) : Int) by omega, hWj.1, hWj.2]
    exact this
  · rw [b_M_works_L14, fW' 142 (by decide), h12, w32_id (x := 1800 * b) (by omega) (by omega), w32_id (by omega) (by omega)]
    refine Tr_t (by omega) ?_
    rw [F_142_42, A_167, gd_in (by omega) (by omega)]
    exact Tr_ret ⟨sW'.1, fW'⟩
