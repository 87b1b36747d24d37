/-! the class's moves: preparing -/
/-- the rules that speak of a piece's moves, of the places below n, higher ones first; and those that end a game -/
def spR (G : GM) (s : SL) (k : Int) : Nat → List Int
  | 0 => []
  | n + 1 => if sX s (sA s n) = 0 ∧ qK G (sA s n) < 2 ∧ qI G (sA s n) = k then sA s n :: spR G s k n else spR G s k n
def enR (G : GM) (s : SL) : Nat → List Int
  | 0 => []
  | n + 1 => if sX s (sA s n) = 0 ∧ 2 ≤ qK G (sA s n) then sA s n :: enR G s n else enR G s n
def shf (G : GM) (s : SL) (r : Int) : Int := if qW G r = 1 then -(sN s r) else sN s r
def spH (G : GM) (s : SL) (m : Int) (V : ASt) (k : Int) (l : List Int) : Prop := V (m + 9) k = l.length ∧ ∀ i : Nat, i < l.length → V (m + 6) (12 * k + i) = l.getD i 0 ∧ V (m + 7) (12 * k + i) = shf G s (l.getD i 0) ∧ V (m + 8) (12 * k + i) = (if kNow G s (l.getD i 0) = 0 then 1 else 0)
def enH (G : GM) (s : SL) (m : Int) (V : ASt) (l : List Int) : Prop := V m 14 = l.length ∧ ∀ i : Nat, i < l.length → V (m + 10) i = l.getD i 0 ∧ V (m + 11) i = (if kNow G s (l.getD i 0) = 2 then -1 else -2)
theorem spR_le (G : GM) (s : SL) (k : Int) : ∀ n, (spR G s k n).length ≤ n := by
  intro n
  induction n with
  | zero => exact Nat.le_refl _
  | succ n ih =>
    rw [spR]
    by_cases c : sX s (sA s n) = 0 ∧ qK G (sA s n) < 2 ∧ qI G (sA s n) = k
    · rw [if_pos c, List.length_cons]; omega
    · rw [if_neg c]; omega
theorem enR_le (G : GM) (s : SL) : ∀ n, (enR G s n).length ≤ n := by
  intro n
  induction n with
  | zero => exact Nat.le_refl _
  | succ n ih =>
    rw [enR]
    by_cases c : sX s (sA s n) = 0 ∧ 2 ≤ qK G (sA s n)
    · rw [if_pos c, List.length_cons]; omega
    · rw [if_neg c]; omega
theorem spR_mem {G : GM} {s : SL} (hs : SOK G s) {k r : Int} : ∀ n : Nat, (n : Int) ≤ qR G → r ∈ spR G s k n → 0 ≤ r ∧ r < qR G ∧ qK G r < 2 ∧ qI G r = k := by
  intro n
  induction n with
  | zero => intro _ h; cases h
  | succ n ih =>
    intro hn h
    rw [spR] at h
    by_cases c : sX s (sA s n) = 0 ∧ qK G (sA s n) < 2 ∧ qI G (sA s n) = k
    · rw [if_pos c, List.mem_cons] at h
      rcases h with h | h
      · have := hs.1 n (by omega) (by omega)
        rw [h]; exact ⟨this.1, this.2, c.2.1, c.2.2⟩
      · exact ih (by omega) h
    · rw [if_neg c] at h; exact ih (by omega) h
theorem enR_mem {G : GM} {s : SL} (hs : SOK G s) {r : Int} : ∀ n : Nat, (n : Int) ≤ qR G → r ∈ enR G s n → 0 ≤ r ∧ r < qR G ∧ 2 ≤ qK G r := by
  intro n
  induction n with
  | zero => intro _ h; cases h
  | succ n ih =>
    intro hn h
    rw [enR] at h
    by_cases c : sX s (sA s n) = 0 ∧ 2 ≤ qK G (sA s n)
    · rw [if_pos c, List.mem_cons] at h
      rcases h with h | h
      · have := hs.1 n (by omega) (by omega)
        rw [h]; exact ⟨this.1, this.2, c.2⟩
      · exact ih (by omega) h
    · rw [if_neg c] at h; exact ih (by omega) h
/-- U is V but for what adding rules sets -/
def frP (m : Int) (V U : ASt) : Prop := (∀ a, a ≠ m → (a < m + 6 ∨ m + 11 < a) → U a = V a) ∧ (∀ j, j ≠ 14 → U m j = V m j)
theorem frP_rfl (m : Int) (V : ASt) : frP m V V := ⟨fun _ _ _ => rfl, fun _ _ => rfl⟩
theorem frP_tr {m : Int} {V U W : ASt} (h : frP m V U) (h2 : frP m U W) : frP m V W := ⟨fun a a1 a2 => by rw [h2.1 a a1 a2, h.1 a a1 a2], fun j hj => by rw [h2.2 j hj, h.2 j hj]⟩
theorem dG_P {G : GM} {m t : Int} {V U : ASt} (hm : isMv m) (ht : isGm t) (h : frP m V U) (g : dG G t V) : dG G t U := by
  have h1 := hm
  have h2 := ht
  unfold isMv at h1
  unfold isGm at h2
  exact dG_fr (h.1 t (by omega) (by omega)) (fun o o1 o2 => h.1 _ (by omega) (by omega)) g
theorem dS_P {G : GM} {s : SL} {m a : Int} {V U : ASt} (hm : isMv m) (ha : isSl a) (h : frP m V U) (g : dS G s a V) : dS G s a U := by
  have h1 := hm
  have h2 := ha
  unfold isMv at h1
  unfold isSl at h2
  exact dS_fr (h.1 a (by omega) (by omega)) (h.1 (a + 1) (by omega) (by omega)) g
theorem spH_snoc {G : GM} {s : SL} {m : Int} {V U : ASt} {k r : Int} {l : List Int} (h : spH G s m V k l) (h6 : U (m + 6) = upI (V (m + 6)) (12 * k + l.length) r) (h7 : U (m + 7) = upI (V (m + 7)) (12 * k + l.length) (shf G s r)) (h8 : U (m + 8) = upI (V (m + 8)) (12 * k + l.length) (if kNow G s r = 0 then 1 else 0)) (h9 : U (m + 9) k = (l.length : Int) + 1) : spH G s m U k (l ++ [r]) := by
  refine ⟨by rw [h9, List.length_append]; simp, fun i hi => ?_⟩
  rw [List.length_append, List.length_cons, List.length_nil] at hi
  rw [getD_snoc, h6, h7, h8]
  by_cases c : i < l.length
  · rw [if_pos c, upI_n _ _ (by omega), upI_n _ _ (by omega), upI_n _ _ (by omega)]; exact h.2 i c
  · have : i = l.length := by omega
    subst this
    rw [if_neg c, if_pos rfl, upI_s, upI_s, upI_s]
    exact ⟨rfl, rfl, rfl⟩
theorem enH_snoc {G : GM} {s : SL} {m : Int} {V U : ASt} {r : Int} {l : List Int} (h : enH G s m V l) (h10 : U (m + 10) = upI (V (m + 10)) l.length r) (h11 : U (m + 11) = upI (V (m + 11)) l.length (if kNow G s r = 2 then -1 else -2)) (h14 : U m 14 = (l.length : Int) + 1) : enH G s m U (l ++ [r]) := by
  refine ⟨by rw [h14, List.length_append]; simp, fun i hi => ?_⟩
  rw [List.length_append, List.length_cons, List.length_nil] at hi
  rw [getD_snoc, h10, h11]
  by_cases c : i < l.length
  · rw [if_pos c, upI_n _ _ (by omega), upI_n _ _ (by omega)]; exact h.2 i c
  · have : i = l.length := by omega
    subst this
    rw [if_neg c, if_pos rfl, upI_s, upI_s]
    exact ⟨rfl, rfl⟩
theorem M_addRule {G : GM} {s : SL} {m t : Int} {V : ASt} (hG : GOK G) (hs : SOK G s) (hm : isMv m) (ht : isGm t) (hg : dG G t V) (h2 : V m 2 = t) {r : Int} (h0 : 0 ≤ r) (hr : r < qR G) {l0 l1 le : List Int} (hl0 : spH G s m V 0 l0) (hl1 : spH G s m V 1 l1) (hle : enH G s m V le) (n0 : l0.length < 12) (n1 : l1.length < 12) (ne : le.length < 12) :
    Tr (f_Moves_addRule S0 V m r (kNow G s r) (sN s r)) (fun _ U => frP m V U ∧ (qK G r < 2 → spH G s m U 0 (if qI G r = 0 then l0 ++ [r] else l0) ∧ spH G s m U 1 (if qI G r = 1 then l1 ++ [r] else l1) ∧ enH G s m U le) ∧ (2 ≤ qK G r → spH G s m U 0 l0 ∧ spH G s m U 1 l1 ∧ enH G s m U (le ++ [r]))) := by
  have hmm := hm
  have htt := ht
  unfold isMv at hmm
  unfold isGm at htt
  have kk := hG.2.2.2.2.2.2.1 r h0 hr
  have nr := sN_r hs h0 hr
  have hP := hG.2.1
  unfold f_Moves_addRule
  rw [gd_t (OM hm), h2, gd_t (OG ht)]
  refine Tr_bq (G_pieceOf hG ht hg h0 hr) ?_
  by_cases k2 : qK G r < 2
  · have q := kk.2.2.2.1 k2
    refine Tr_f (by omega) (Tr_t (by omega) ?_)
    have main : ∀ (k : Int) (l : List Int), qI G r = k → k = 0 ∨ k = 1 → spH G s m V k l → l.length < 12 → Tr (gd (isA S0 (aF S0 m 11) 0 k) (if 12 ≤ (V (aF S0 m 11) k) then (some (0, V)) else (gd (isA S0 (aF S0 m 8) 0 (w32 ((w32 (k * 12)) + (V (aF S0 m 11) k)))) (wV (aset V (aF S0 m 8) (w32 ((w32 (k * 12)) + (V (aF S0 m 11) k))) r) (fun V19 => gd (isO S0 (V19 m 2) 1) (bnd (f_Game_wayOf S0 V19 (V19 m 2) r) (fun r20 V21 => if r20 = 1 then (b_Moves_addRule_J132 S0 V21 m (kNow G s r) k (w32 ((w32 (k * 12)) + (V (aF S0 m 11) k))) (aF S0 m 9) (w32 ((w32 (k * 12)) + (V (aF S0 m 11) k))) (w32 (-(sN s r)))) else (b_Moves_addRule_J132 S0 V21 m (kNow G s r) k (w32 ((w32 (k * 12)) + (V (aF S0 m 11) k))) (aF S0 m 9) (w32 ((w32 (k * 12)) + (V (aF S0 m 11) k))) (sN s r))))))))) (fun _ U => frP m V U ∧ U m = V m ∧ U (m + 10) = V (m + 10) ∧ U (m + 11) = V (m + 11) ∧ spH G s m U k (l ++ [r]) ∧ (∀ j l', j ≠ k → (j = 0 ∨ j = 1) → l'.length < 12 → spH G s m V j l' → spH G s m U j l')) := by
      intro k l hk hk01 hl hn
      rw [FM_11 hm, AM9 hm, gd_in (by omega) (by omega), hl.1, if_neg (by omega), w32_id (x := k * 12) (by omega) (by omega), w32_id (x := k * 12 + (l.length : Int)) (by omega) (by omega), show k * 12 + (l.length : Int) = 12 * k + l.length by omega, FM_8 hm, AM6 hm, gd_in (by omega) (by omega)]
      refine Tr_set (fun V1 e1 n1 => ?_)
      rw [n1 m (by omega), h2, gd_t (OG ht)]
      have g1 : dG G t V1 := dG_fr (n1 t (by omega)) (fun o o1 o2 => n1 _ (by omega)) hg
      refine Tr_bq (G_wayOf hG ht g1 h0 hr) ?_
      rw [w32_id (x := -(sN s r)) (by omega) (by omega)]
      have hJ : ∀ x, x = shf G s r → Tr (b_Moves_addRule_J132 S0 V1 m (kNow G s r) k (12 * k + l.length) (aF S0 m 9) (12 * k + l.length) x) (fun _ U => frP m V U ∧ U m = V m ∧ U (m + 10) = V (m + 10) ∧ U (m + 11) = V (m + 11) ∧ spH G s m U k (l ++ [r]) ∧ (∀ j l', j ≠ k → (j = 0 ∨ j = 1) → l'.length < 12 → spH G s m V j l' → spH G s m U j l')) := by
        intro x hx
        unfold b_Moves_addRule_J132
        rw [FM_9 hm, AM7 hm, gd_in (by omega) (by omega)]
        refine Tr_set (fun V2 e2 n2 => ?_)
        have hJ2 : ∀ y, y = (if kNow G s r = 0 then (1 : Int) else 0) → Tr (b_Moves_addRule_J148 S0 V2 m k (aF S0 m 10) (12 * k + l.length) y) (fun _ U => frP m V U ∧ U m = V m ∧ U (m + 10) = V (m + 10) ∧ U (m + 11) = V (m + 11) ∧ spH G s m U k (l ++ [r]) ∧ (∀ j l', j ≠ k → (j = 0 ∨ j = 1) → l'.length < 12 → spH G s m V j l' → spH G s m U j l')) := by
          intro y hy
          have y01 : y = 0 ∨ y = 1 := by
            rw [hy]
            by_cases z : kNow G s r = 0
            · rw [if_pos z]; exact Or.inr rfl
            · rw [if_neg z]; exact Or.inl rfl
          unfold b_Moves_addRule_J148
          rw [FM_10 hm, AM8 hm, gd_in (by omega) (by omega), zb_t y01]
          refine Tr_set (fun V3 e3 n3 => ?_)
          have r9 : V3 (m + 9) = V (m + 9) := by rw [n3 (m + 9) (by omega), n2 (m + 9) (by omega), n1 (m + 9) (by omega)]
          rw [FM_11 hm, AM9 hm, gd_in (by omega) (by omega), r9, hl.1, w32_id (x := (l.length : Int) + 1) (by omega) (by omega)]
          refine Tr_set (fun V4 e4 n4 => ?_)
          have a6 : V4 (m + 6) = upI (V (m + 6)) (12 * k + l.length) r := by rw [n4 _ (by omega), n3 _ (by omega), n2 _ (by omega), e1]
          have a7 : V4 (m + 7) = upI (V (m + 7)) (12 * k + l.length) (shf G s r) := by rw [n4 _ (by omega), n3 _ (by omega), e2, n1 _ (by omega), hx]
          have a8 : V4 (m + 8) = upI (V (m + 8)) (12 * k + l.length) (if kNow G s r = 0 then 1 else 0) := by rw [n4 _ (by omega), e3, n2 _ (by omega), n1 _ (by omega), hy]
          have a9 : V4 (m + 9) = upI (V (m + 9)) k ((l.length : Int) + 1) := by rw [e4, r9]
          have rest : ∀ b, b ≠ m + 6 → b ≠ m + 7 → b ≠ m + 8 → b ≠ m + 9 → V4 b = V b := fun b b1 b2 b3 b4 => by rw [n4 b b4, n3 b b3, n2 b b2, n1 b b1]
          refine Tr_ret ⟨⟨fun b b1 b2 => rest b (by omega) (by omega) (by omega) (by omega), fun j _ => by rw [rest m (by omega) (by omega) (by omega) (by omega)]⟩, rest m (by omega) (by omega) (by omega) (by omega), rest _ (by omega) (by omega) (by omega) (by omega), rest _ (by omega) (by omega) (by omega) (by omega), spH_snoc hl a6 a7 a8 (by rw [a9, upI_s]), fun j l' hj hj01 hl' hh => ?_⟩
          unfold spH
          rw [a6, a7, a8, a9, upI_n _ _ hj]
          refine ⟨hh.1, fun i hi => ?_⟩
          rw [upI_n _ _ (by omega), upI_n _ _ (by omega), upI_n _ _ (by omega)]
          exact hh.2 i hi
        refine Tr_if (fun z => ?_) (fun z => ?_)
        · exact hJ2 1 (by rw [if_pos z])
        · exact hJ2 0 (by rw [if_neg z])
      refine Tr_if (fun z => ?_) (fun z => ?_)
      · exact hJ _ (by unfold shf; rw [if_pos z])
      · exact hJ _ (by unfold shf; rw [if_neg z])
    have hen : ∀ U : ASt, U m = V m → U (m + 10) = V (m + 10) → U (m + 11) = V (m + 11) → enH G s m U le := fun U u1 u2 u3 => by
      unfold enH
      rw [u1, u2, u3]; exact hle
    have hI : qI G r = 0 ∨ qI G r = 1 := by omega
    rcases hI with e | e
    · rw [e]
      refine Tr_mono (main 0 l0 e (Or.inl rfl) hl0 n0) ?_
      rintro x U ⟨u1, u2, u3, u4, u5, u6⟩
      refine ⟨u1, fun _ => ⟨?_, ?_, hen U u2 u3 u4⟩, fun z => by omega⟩
      · rw [if_pos rfl]; exact u5
      · rw [if_neg (by decide)]; exact u6 1 l1 (by decide) (Or.inr rfl) n1 hl1
    · rw [e]
      refine Tr_mono (main 1 l1 e (Or.inr rfl) hl1 n1) ?_
      rintro x U ⟨u1, u2, u3, u4, u5, u6⟩
      refine ⟨u1, fun _ => ⟨?_, ?_, hen U u2 u3 u4⟩, fun z => by omega⟩
      · rw [if_neg (by decide)]; exact u6 0 l0 (by decide) (Or.inl rfl) n0 hl0
      · rw [if_pos rfl]; exact u5
  · have q := kk.2.2.2.2 (by omega)
    refine Tr_t (by omega) ?_
    unfold b_Moves_addRule_J21
    rw [hle.1, if_neg (by omega), FM_12 hm, AM10 hm, gd_in (by omega) (by omega)]
    refine Tr_set (fun V1 e1 n1 => ?_)
    have hJ : ∀ y, y = (if kNow G s r = 2 then (-1 : Int) else -2) → Tr (b_Moves_addRule_J59 S0 V1 m (aF S0 m 13) (V1 m 14) y) (fun _ U => frP m V U ∧ (qK G r < 2 → spH G s m U 0 (if qI G r = 0 then l0 ++ [r] else l0) ∧ spH G s m U 1 (if qI G r = 1 then l1 ++ [r] else l1) ∧ enH G s m U le) ∧ (2 ≤ qK G r → spH G s m U 0 l0 ∧ spH G s m U 1 l1 ∧ enH G s m U (le ++ [r]))) := by
      intro y hy
      have r14 : V1 m 14 = (le.length : Int) := by rw [n1 m (by omega)]; exact hle.1
      unfold b_Moves_addRule_J59
      rw [r14, FM_13 hm, AM11 hm, gd_in (by omega) (by omega)]
      refine Tr_set (fun V2 e2 n2 => ?_)
      rw [n2 m (by omega), r14, w32_id (x := (le.length : Int) + 1) (by omega) (by omega)]
      refine Tr_set (fun V3 e3 n3 => ?_)
      have a10 : V3 (m + 10) = upI (V (m + 10)) le.length r := by rw [n3 _ (by omega), n2 _ (by omega), e1]
      have a11 : V3 (m + 11) = upI (V (m + 11)) le.length (if kNow G s r = 2 then -1 else -2) := by rw [n3 _ (by omega), e2, n1 _ (by omega), hy]
      have am : V3 m = upI (V m) 14 ((le.length : Int) + 1) := by rw [e3, n2 m (by omega), n1 m (by omega)]
      have rest : ∀ b, b ≠ m → b ≠ m + 10 → b ≠ m + 11 → V3 b = V b := fun b b1 b2 b3 => by rw [n3 b b1, n2 b b3, n1 b b2]
      have hsp : ∀ j l', spH G s m V j l' → spH G s m V3 j l' := fun j l' hh => by
        unfold spH
        rw [rest _ (by omega) (by omega) (by omega), rest _ (by omega) (by omega) (by omega), rest _ (by omega) (by omega) (by omega), rest _ (by omega) (by omega) (by omega)]
        exact hh
      refine Tr_ret ⟨⟨fun b b1 b2 => rest b b1 (by omega) (by omega), fun j hj => by rw [am, upI_n _ _ hj]⟩, fun z => absurd z k2, fun _ => ⟨hsp 0 l0 hl0, hsp 1 l1 hl1, enH_snoc hle a10 a11 (by rw [am, upI_s])⟩⟩
    refine Tr_if (fun z => ?_) (fun z => ?_)
    · exact hJ _ (by rw [if_pos z])
    · exact hJ _ (by rw [if_neg z])
/-- the moves at m are ready for the slate s of the game at t -/
def dP (G : GM) (s : SL) (m t : Int) (V : ASt) : Prop := V m 2 = t ∧ spH G s m V 0 (spR G s 0 (qR G).toNat) ∧ spH G s m V 1 (spR G s 1 (qR G).toNat) ∧ enH G s m V (enR G s (qR G).toNat)
theorem dP_fr {G : GM} {s : SL} {m t : Int} {V U : ASt} (h2 : U m 2 = V m 2) (h14 : U m 14 = V m 14) (h : ∀ o, 6 ≤ o → o ≤ 11 → U (m + o) = V (m + o)) (g : dP G s m t V) : dP G s m t U := by
  unfold dP spH enH at *
  rw [h2, h14, h 6 (by decide) (by decide), h 7 (by decide) (by decide), h 8 (by decide) (by decide), h 9 (by decide) (by decide), h 10 (by decide) (by decide), h 11 (by decide) (by decide)]
  exact g
theorem prepare_loop {G : GM} {s : SL} {m t a : Int} {V : ASt} (hG : GOK G) (hs : SOK G s) (hm : isMv m) (ht : isGm t) (ha : isSl a) (hg : dG G t V) (hS : dS G s a V) (h2 : V m 2 = t) : ∀ (n : Nat) (i : Int) (W : ASt) (l0 l1 le : List Int), i + 1 < n → -1 ≤ i → i < qR G → frP m V W →
    spH G s m W 0 l0 → spH G s m W 1 l1 → enH G s m W le → l0 ++ spR G s 0 (i + 1).toNat = spR G s 0 (qR G).toNat → l1 ++ spR G s 1 (i + 1).toNat = spR G s 1 (qR G).toNat → le ++ enR G s (i + 1).toNat = enR G s (qR G).toNat → (l0.length : Int) + i + 1 ≤ qR G → (l1.length : Int) + i + 1 ≤ qR G → (le.length : Int) + i + 1 ≤ qR G →
    Tr (b_Moves_prepare_L43 S0 m a n W i) (fun _ U => frP m V U ∧ dP G s m t U) := by
  have hR := hG.2.2.1
  intro n
  induction n with
  | zero => intro i W l0 l1 le h1 h3; omega
  | succ n ih =>
    intro i W l0 l1 le hn i0 i1 fW w0 w1 we e0 e1 ee n0 n1 ne
    have w2 : W m 2 = t := by rw [fW.2 2 (by decide)]; exact h2
    rw [b_Moves_prepare_L43]
    refine Tr_if (fun c => ?_) (fun c => ?_)
    · have : i = -1 := by omega
      subst this
      have z0 : l0 = spR G s 0 (qR G).toNat := by rw [← e0]; exact (List.append_nil l0).symm
      have z1 : l1 = spR G s 1 (qR G).toNat := by rw [← e1]; exact (List.append_nil l1).symm
      have ze : le = enR G s (qR G).toNat := by rw [← ee]; exact (List.append_nil le).symm
      rw [z0] at w0
      rw [z1] at w1
      rw [ze] at we
      exact Tr_ret ⟨fW, w2, w0, w1, we⟩
    have gW := dG_P hm ht fW hg
    have sW := dS_P hm ha fW hS
    have ra := hs.1 i (by omega) i1
    have xx := (hs.2.2 (sA s i) ra.1 ra.2).1
    have tn : (i + 1).toNat = i.toNat + 1 := by omega
    have ci : ((i.toNat : Nat) : Int) = i := cast_t (by omega)
    rw [tn, spR, ci] at e0 e1
    rw [tn, enR, ci] at ee
    rw [gd_t (OS ha), w32_id (x := i + -1) (by omega) (by omega)]
    refine Tr_bq (S_isStruck hG hs ha sW (by omega) i1) ?_
    refine Tr_if (fun c1 => ?_) (fun c1 => ?_)
    · refine Tr_bq (S_ruleAt hG hs ha sW (by omega) i1) ?_
      rw [w2]
      refine Tr_bq (S_kindAt hG hs ha sW ht gW (by omega) i1) ?_
      refine Tr_bq (S_stepAt hG hs ha sW (by omega) i1) ?_
      refine Tr_bnd (M_addRule hG hs hm ht gW w2 ra.1 ra.2 w0 w1 we (by omega) (by omega) (by omega)) ?_
      rintro y U ⟨u1, u2, u3⟩
      have ihh := fun l0 l1 le => ih (i + -1) U l0 l1 le (by omega) (by omega) (by omega) (frP_tr fW u1)
      rw [show (i + -1 + 1).toNat = i.toNat by omega] at ihh
      by_cases k2 : qK G (sA s i) < 2
      · obtain ⟨v0, v1, ve⟩ := u2 k2
        rw [if_neg (by omega)] at ee
        refine ihh _ _ _ v0 v1 ve ?_ ?_ ee ?_ ?_ (by omega)
        · by_cases z : qI G (sA s i) = 0
          · rw [if_pos z, List.append_assoc]
            rw [if_pos ⟨c1, k2, z⟩] at e0
            exact e0
          · rw [if_neg z]
            rw [if_neg (fun q => z q.2.2)] at e0
            exact e0
        · by_cases z : qI G (sA s i) = 1
          · rw [if_pos z, List.append_assoc]
            rw [if_pos ⟨c1, k2, z⟩] at e1
            exact e1
          · rw [if_neg z]
            rw [if_neg (fun q => z q.2.2)] at e1
            exact e1
        · by_cases z : qI G (sA s i) = 0
          · rw [if_pos z, List.length_append, List.length_cons, List.length_nil]; omega
          · rw [if_neg z]; omega
        · by_cases z : qI G (sA s i) = 1
          · rw [if_pos z, List.length_append, List.length_cons, List.length_nil]; omega
          · rw [if_neg z]; omega
      · obtain ⟨v0, v1, ve⟩ := u3 (by omega)
        rw [if_neg (fun q => k2 q.2.1)] at e0 e1
        rw [if_pos ⟨c1, by omega⟩] at ee
        refine ihh _ _ _ v0 v1 ve e0 e1 ?_ (by omega) (by omega) ?_
        · rw [List.append_assoc]; exact ee
        · rw [List.length_append, List.length_cons, List.length_nil]; omega
    · rw [if_neg (fun z => c1 z.1)] at e0 e1 ee
      have := ih (i + -1) W l0 l1 le (by omega) (by omega) (by omega) fW w0 w1 we
      rw [show (i + -1 + 1).toNat = i.toNat by omega] at this
      exact this e0 e1 ee (by omega) (by omega) (by omega)
theorem M_prepare {G : GM} {s : SL} {m t a : Int} {V : ASt} (hG : GOK G) (hs : SOK G s) (hm : isMv m) (ht : isGm t) (ha : isSl a) (hg : dG G t V) (hS : dS G s a V) :
    Tr (f_Moves_prepare S0 V m t a) (fun _ U => dP G s m t U ∧ U m 0 = 0 ∧ U m 1 = 0 ∧ (∀ p, 0 ≤ p → p < 200 → U (m + 3) p = 0) ∧ ∀ b, (b < m ∨ m + 11 < b) → U b = V b) := by
  have hmm := hm
  have htt := ht
  have haa := ha
  unfold isMv at hmm
  unfold isGm at htt
  unfold isSl at haa
  have hR := hG.2.2.1
  unfold f_Moves_prepare
  rw [gd_t (OM hm)]
  refine Tr_set (fun V1 e1 n1 => ?_)
  refine Tr_set (fun V2 e2 n2 => ?_)
  refine Tr_set (fun V3 e3 n3 => ?_)
  rw [FM_5 hm]
  refine Tr_bq (fill_ok (WM3 hm) (NM3 hm) (by decide) (by decide)) ?_
  rw [FM_11 hm]
  refine Tr_bq (fill_ok (WM9 hm) (NM9 hm) (by decide) (by decide)) ?_
  generalize hV4 : arow V3 (m + 3) (fun j => if 0 ≤ j ∧ j < 200 then 0 else V3 (m + 3) j) = V4
  generalize hV5 : arow V4 (m + 9) (fun j => if 0 ≤ j ∧ j < 2 then 0 else V4 (m + 9) j) = V5
  refine Tr_set (fun V6 e6 n6 => ?_)
  have am : V6 m = upI (upI (upI (upI (V m) 2 t) 0 0) 1 0) 14 0 := by rw [e6, ← hV5, arow_n _ _ (by omega), ← hV4, arow_n _ _ (by omega), e3, e2, e1]
  have rest : ∀ b, b ≠ m → b ≠ m + 3 → b ≠ m + 9 → V6 b = V b := fun b b1 b2 b3 => by rw [n6 b b1, ← hV5, arow_n _ _ b3, ← hV4, arow_n _ _ b2, n3 b b1, n2 b b1, n1 b b1]
  have a9 : ∀ k, 0 ≤ k → k < 2 → V6 (m + 9) k = 0 := fun k k0 k1 => by rw [n6 _ (by omega), ← hV5, arow_s, if_pos ⟨k0, k1⟩]
  have a3 : ∀ p, 0 ≤ p → p < 200 → V6 (m + 3) p = 0 := fun p p0 p1 => by rw [n6 _ (by omega), ← hV5, arow_n _ _ (by omega), ← hV4, arow_s, if_pos ⟨p0, p1⟩]
  have m2 : V6 m 2 = t := by rw [am, upI_n _ _ (by decide), upI_n _ _ (by decide), upI_n _ _ (by decide), upI_s]
  have m14 : V6 m 14 = 0 := by rw [am, upI_s]
  have g6 : dG G t V6 := dG_fr (rest t (by omega) (by omega) (by omega)) (fun o o1 o2 => rest _ (by omega) (by omega) (by omega)) hg
  have s6 : dS G s a V6 := dS_fr (rest a (by omega) (by omega) (by omega)) (rest (a + 1) (by omega) (by omega) (by omega)) hS
  rw [gd_t (OS ha), s6.1, w32_id (x := qR G - 1) (by omega) (by omega)]
  have hl := prepare_loop hG hs hm ht ha g6 s6 m2 FU (qR G - 1) V6 [] [] [] (by rw [FU_v]; omega) (by omega) (by omega) (frP_rfl m V6) ⟨a9 0 (by decide) (by decide), fun i hi => absurd hi (Nat.not_lt_zero i)⟩ ⟨a9 1 (by decide) (by decide), fun i hi => absurd hi (Nat.not_lt_zero i)⟩ ⟨m14, fun i hi => absurd hi (Nat.not_lt_zero i)⟩
  rw [show qR G - 1 + 1 = qR G by omega] at hl
  refine Tr_mono (hl rfl rfl rfl (by rw [List.length_nil]; omega) (by rw [List.length_nil]; omega) (by rw [List.length_nil]; omega)) ?_
  rintro r U ⟨u1, u2⟩
  refine ⟨u2, ?_, ?_, fun p p0 p1 => ?_, fun b hb => ?_⟩
  · rw [u1.2 0 (by decide), am, upI_n _ _ (by decide), upI_n _ _ (by decide), upI_s]
  · rw [u1.2 1 (by decide), am, upI_n _ _ (by decide), upI_s]
  · rw [u1.1 _ (by omega) (by omega)]; exact a3 p p0 p1
  · rw [u1.1 b (by omega) (by omega), rest b (by omega) (by omega) (by omega)]
