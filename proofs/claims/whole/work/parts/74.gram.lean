/-! the grammar of tests, as a function -/
/-- types, places, names and numbers of tokens -/
abbrev TKs : Type := (Int → Int) × (Int → Int) × (Int → List Int) × (Int → Int)
abbrev CDs : Type := List (Int × Int)
/-- a fault's kind, or 0; where it goes on, or the fault's place; the words of both sides -/
abbrev R3 : Type := Int × Int × CDs × CDs
def flR (K : TKs) (kd k : Int) : R3 := (kd, K.2.1 k, [], [])
def okR (k : Int) (w : CDs) : R3 := (0, k, w, w)
def sqR (a : R3) (f : Int → R3) : R3 := if a.1 = 0 then (if (f a.2.1).1 = 0 then (0, (f a.2.1).2.1, a.2.2.1 ++ (f a.2.1).2.2.1, a.2.2.2 ++ (f a.2.1).2.2.2) else f a.2.1) else a
def pixF (ls : List Int) : List (List Int) → Int → Int
  | [], _ => -1
  | w :: r, i => if w = ls then i else pixF ls r (i + 1)
def ntC (ty : Int → Int) : Nat → Int → Nat
  | 0, _ => 0
  | m + 1, k => if ty k = 266 then ntC ty m (k + 1) + 1 else 0
def ntR (c : Nat) (r : R3) : R3 := if r.1 = 0 then (0, r.2.1, r.2.2.1 ++ List.replicate c (22, 0), r.2.2.2 ++ (if c % 2 = 1 then [(22, 0)] else [])) else r
def ps (K : TKs) (ns : List (List Int)) : Nat → Nat → Int → Int → R3
  | 0, _, _, _ => (9, 0, [], [])
  | m + 1, nt, k, o =>
    if nt = 0 then sqR (ps K ns m 2 k o) (fun k => ps K ns m 1 k o)
    else if nt = 1 then (if K.1 k = 271 then sqR (sqR (ps K ns m 2 (k + 1) o) (fun k => okR k [(21, 0)])) (fun k => ps K ns m 1 k o) else okR k [])
    else if nt = 2 then sqR (ps K ns m 4 k o) (fun k => ps K ns m 3 k o)
    else if nt = 3 then (if K.1 k = 272 then sqR (sqR (ps K ns m 4 (k + 1) o) (fun k => okR k [(20, 0)])) (fun k => ps K ns m 3 k o) else okR k [])
    else if nt = 4 then ntR (ntC K.1 2000 k) (ps K ns m 11 (k + ntC K.1 2000 k) o)
    else if nt = 5 then sqR (ps K ns m 6 k o) (fun k => if K.1 k = 60 then sqR (ps K ns m 6 (k + 1) o) (fun k => okR k [(17, 0)]) else if K.1 k = 62 then sqR (ps K ns m 6 (k + 1) o) (fun k => okR k [(18, 0)]) else if K.1 k = 61 then sqR (ps K ns m 6 (k + 1) o) (fun k => okR k [(19, 0)]) else flR K 1 k)
    else if nt = 6 then sqR (ps K ns m 8 k o) (fun k => ps K ns m 7 k o)
    else if nt = 7 then (if K.1 k = 43 then sqR (sqR (ps K ns m 8 (k + 1) o) (fun k => okR k [(10, 0)])) (fun k => ps K ns m 7 k o) else if K.1 k = 45 then sqR (sqR (ps K ns m 8 (k + 1) o) (fun k => okR k [(11, 0)])) (fun k => ps K ns m 7 k o) else okR k [])
    else if nt = 8 then sqR (ps K ns m 10 k o) (fun k => ps K ns m 9 k o)
    else if nt = 9 then (if K.1 k = 42 then sqR (sqR (ps K ns m 10 (k + 1) o) (fun k => okR k [(12, 0)])) (fun k => ps K ns m 9 k o) else if K.1 k = 47 then sqR (sqR (ps K ns m 10 (k + 1) o) (fun k => okR k [(13, 0)])) (fun k => ps K ns m 9 k o) else if K.1 k = 37 then sqR (sqR (ps K ns m 10 (k + 1) o) (fun k => okR k [(14, 0)])) (fun k => ps K ns m 9 k o) else okR k [])
    else if nt = 10 then (if K.1 k = 40 then (if o = 8 then flR K 5 k else sqR (ps K ns m 6 (k + 1) (o + 1)) (fun k => if K.1 k = 41 then okR (k + 1) [] else flR K 1 k))
      else if K.1 k = 3 then okR (k + 1) [(0, K.2.2.2 k)] else if K.1 k = 274 then okR (k + 1) [(1, 0)] else if K.1 k = 275 then okR (k + 1) [(2, 0)] else if K.1 k = 276 then okR (k + 1) [(3, 0)]
      else if K.1 k = 277 then ps K ns m 12 (k + 1) o else if K.1 k = 278 then ps K ns m 13 (k + 1) o
      else if K.1 k = 2 then (if pixF (K.2.2.1 k) ns 0 = -1 then flR K 3 k else okR (k + 1) [(4 + pixF (K.2.2.1 k) ns 0, 0)]) else flR K 1 k)
    else if nt = 11 then (if K.1 k = 91 then (if o = 8 then flR K 5 k else sqR (ps K ns m 0 (k + 1) (o + 1)) (fun k => if K.1 k = 93 then okR (k + 1) [] else flR K 1 k))
      else if K.1 k = 273 then okR (k + 1) [(9, 0)] else ps K ns m 5 k o)
    else (if K.1 k = 40 then (if o = 8 then flR K 5 k else sqR (ps K ns m 6 (k + 1) (o + 1)) (fun k => if K.1 k = 44 then sqR (ps K ns m 6 (k + 1) (o + 1)) (fun k => if K.1 k = 41 then okR (k + 1) [(if nt = 12 then 15 else 16, 0)] else flR K 1 k) else flR K 1 k)) else flR K 1 k)
-- ---- how it goes on
theorem sqR_f {a : R3} {f : Int → R3} (h : a.1 ≠ 0) : sqR a f = a := by unfold sqR; rw [if_neg h]
theorem sqR_o {a : R3} {f : Int → R3} (h : a.1 = 0) : sqR a f = if (f a.2.1).1 = 0 then (0, (f a.2.1).2.1, a.2.2.1 ++ (f a.2.1).2.2.1, a.2.2.2 ++ (f a.2.1).2.2.2) else f a.2.1 := by unfold sqR; rw [if_pos h]
theorem sqR_9 {a : R3} {f : Int → R3} (h : (sqR a f).1 ≠ 9) : a.1 ≠ 9 ∧ (a.1 = 0 → (f a.2.1).1 ≠ 9) := by
  by_cases c : a.1 = 0
  · rw [sqR_o c] at h
    by_cases d : (f a.2.1).1 = 0
    · exact ⟨by omega, fun _ => by omega⟩
    · rw [if_neg d] at h; exact ⟨by omega, fun _ => h⟩
  · rw [sqR_f c] at h; exact ⟨h, fun z => absurd z c⟩
/-- how far a result goes: between, and no more words than tokens -/
def adv (N k : Int) (s : Int) (r : R3) : Prop := r.1 = 0 → k + s ≤ r.2.1 ∧ r.2.1 ≤ N ∧ (r.2.2.1.length : Int) ≤ r.2.1 - k ∧ (r.2.2.2.length : Int) ≤ r.2.1 - k
theorem adv_sq {N k s u : Int} {a : R3} {f : Int → R3} (hs : 0 ≤ s) (ha : adv N k s a) (hf : a.1 = 0 → adv N a.2.1 u (f a.2.1)) (hu : 0 ≤ u) : adv N k (s + u) (sqR a f) := by
  intro h
  by_cases c : a.1 = 0
  · rw [sqR_o c] at h ⊢
    by_cases d : (f a.2.1).1 = 0
    · rw [if_pos d]
      have h1 := ha c
      have h2 := hf c d
      simp only [List.length_append]
      omega
    · rw [if_neg d] at h; exact absurd h d
  · rw [sqR_f c] at h; exact absurd h c
theorem adv_mono {N k s s' : Int} {r : R3} (h : adv N k s r) (hs : s' ≤ s) : adv N k s' r := fun z => by have := h z; omega
theorem adv_back {N k s : Int} {r : R3} (h : adv N (k + 1) s r) : adv N k (s + 1) r := fun z => by have := h z; omega
theorem adv_ok {N k s : Int} {w : CDs} {k' : Int} (h1 : k + s ≤ k') (h2 : k' ≤ N) (h3 : (w.length : Int) ≤ k' - k) : adv N k s (okR k' w) := fun _ => ⟨h1, h2, h3, h3⟩
theorem adv_fl {N k s kd j : Int} {K : TKs} (h : kd ≠ 0) : adv N k s (flR K kd j) := fun z => absurd z h
theorem ntC_r {ty : Int → Int} {N : Int} (hN : ty N ≠ 266) : ∀ (m : Nat) (k : Int), k ≤ N → k + (ntC ty m k : Int) ≤ N := by
  intro m
  induction m with
  | zero => intro k h; rw [ntC]; omega
  | succ m ih =>
    intro k h
    rw [ntC]
    by_cases c : ty k = 266
    · rw [if_pos c]
      have : k ≠ N := fun e => hN (by rw [← e]; exact c)
      have := ih (k + 1) (by omega)
      omega
    · rw [if_neg c]; omega
/-- the last token is one that nothing asks for -/
def lsT (K : TKs) (N : Int) : Prop := K.1 N = 0 ∨ K.1 N = 1
theorem lt_of_t {K : TKs} {N k : Int} (hN : lsT K N) (h : k ≤ N) (h1 : K.1 k ≠ 0) (h2 : K.1 k ≠ 1) : k < N := by
  by_cases z : k = N
  · subst z
    unfold lsT at hN
    omega
  · omega
def lpN (nt : Nat) : Int := if nt = 1 ∨ nt = 3 ∨ nt = 7 ∨ nt = 9 then 0 else 1
theorem ps_adv {K : TKs} {ns : List (List Int)} {N : Int} (hN : lsT K N) : ∀ (m nt : Nat) (k o : Int), k ≤ N → adv N k (lpN nt) (ps K ns m nt k o) := by
  intro m
  induction m with
  | zero =>
    intro nt k o _ h
    have h9 : (9 : Int) = 0 := h
    omega
  | succ m ih =>
    intro nt k o hk
    have hlt : ∀ j, j ≤ N → K.1 j ≠ 0 → K.1 j ≠ 1 → j < N := fun j a b c => lt_of_t hN a b c
    have go : ∀ (q u : Nat) (c : Int × Int), lpN q = 1 → lpN u = 0 → K.1 k ≠ 0 → K.1 k ≠ 1 → adv N k 0 (sqR (sqR (ps K ns m q (k + 1) o) (fun j => okR j [c])) (fun j => ps K ns m u j o)) := by
      intro q u c hq hu h1 h2
      have hkN := hlt k hk h1 h2
      have a1 : adv N (k + 1) 1 (ps K ns m q (k + 1) o) := by have := ih q (k + 1) o (by omega); rw [hq] at this; exact this
      have a2 : adv N k 2 (sqR (ps K ns m q (k + 1) o) (fun j => okR j [c])) := by
        intro h
        by_cases z : (ps K ns m q (k + 1) o).1 = 0
        · rw [sqR_o z] at h ⊢
          have h1 := a1 z
          rw [if_pos (show (okR (ps K ns m q (k + 1) o).2.1 [c]).1 = 0 from rfl)]
          show k + 2 ≤ (ps K ns m q (k + 1) o).2.1 ∧ (ps K ns m q (k + 1) o).2.1 ≤ N ∧ (((ps K ns m q (k + 1) o).2.2.1 ++ [c]).length : Int) ≤ (ps K ns m q (k + 1) o).2.1 - k ∧ (((ps K ns m q (k + 1) o).2.2.2 ++ [c]).length : Int) ≤ (ps K ns m q (k + 1) o).2.1 - k
          simp only [List.length_append, List.length_cons, List.length_nil]
          omega
        · rw [sqR_f z] at h; exact absurd h z
      refine adv_mono (adv_sq (u := 0) (by omega) a2 (fun z => ?_) (by omega)) (by omega)
      have := ih u (sqR (ps K ns m q (k + 1) o) (fun j => okR j [c])).2.1 o (a2 z).2.1
      rw [hu] at this
      exact this
    have two : ∀ (q u : Nat), lpN q = 1 → lpN u = 0 → adv N k 1 (sqR (ps K ns m q k o) (fun j => ps K ns m u j o)) := by
      intro q u hq hu
      have a1 : adv N k 1 (ps K ns m q k o) := by have := ih q k o hk; rw [hq] at this; exact this
      refine adv_mono (adv_sq (u := 0) (by omega) a1 (fun z => ?_) (by omega)) (by omega)
      have := ih u (ps K ns m q k o).2.1 o (a1 z).2.1
      rw [hu] at this
      exact this
    have stop : adv N k 0 (okR k []) := adv_ok (by omega) hk (by simp)
    have one : ∀ c : Int × Int, K.1 k ≠ 0 → K.1 k ≠ 1 → adv N k 1 (okR (k + 1) [c]) := fun c h1 h2 => by
      have := hlt k hk h1 h2
      exact adv_ok (by omega) (by omega) (by simp only [List.length_cons, List.length_nil]; omega)
    have cmpR : ∀ (j : Int) (c : Int × Int), j ≤ N → K.1 j ≠ 0 → K.1 j ≠ 1 → adv N j 0 (sqR (ps K ns m 6 (j + 1) o) (fun i => okR i [c])) := by
      intro j c hj h1 h2 h
      have hjN := hlt j hj h1 h2
      have a1 : adv N (j + 1) 1 (ps K ns m 6 (j + 1) o) := ih 6 (j + 1) o (by omega)
      by_cases z : (ps K ns m 6 (j + 1) o).1 = 0
      · rw [sqR_o z]
        have h1 := a1 z
        rw [if_pos (show (okR (ps K ns m 6 (j + 1) o).2.1 [c]).1 = 0 from rfl)]
        show j + 0 ≤ (ps K ns m 6 (j + 1) o).2.1 ∧ (ps K ns m 6 (j + 1) o).2.1 ≤ N ∧ (((ps K ns m 6 (j + 1) o).2.2.1 ++ [c]).length : Int) ≤ (ps K ns m 6 (j + 1) o).2.1 - j ∧ (((ps K ns m 6 (j + 1) o).2.2.2 ++ [c]).length : Int) ≤ (ps K ns m 6 (j + 1) o).2.1 - j
        simp only [List.length_append, List.length_cons, List.length_nil]
        omega
      · rw [sqR_f z] at h; exact absurd h z
    have clo : ∀ (j c : Int), j ≤ N → adv N j 0 (if K.1 j = c then okR (j + 1) [] else flR K 1 j) ∨ c = 0 ∨ c = 1 := by
      intro j c hj
      by_cases q0 : c = 0
      · exact Or.inr (Or.inl q0)
      by_cases q1 : c = 1
      · exact Or.inr (Or.inr q1)
      left
      by_cases z : K.1 j = c
      · rw [if_pos z]
        have := hlt j hj (by omega) (by omega)
        exact adv_ok (by omega) (by omega) (by simp; omega)
      · rw [if_neg z]; exact adv_fl (by decide)
    have brk : ∀ (q : Nat) (c : Int), lpN q = 1 → c ≠ 0 → c ≠ 1 → K.1 k ≠ 0 → K.1 k ≠ 1 → adv N k 1 (sqR (ps K ns m q (k + 1) (o + 1)) (fun j => if K.1 j = c then okR (j + 1) [] else flR K 1 j)) := by
      intro q c hq c0 c1 h1 h2
      have hkN := hlt k hk h1 h2
      have a1 : adv N (k + 1) 1 (ps K ns m q (k + 1) (o + 1)) := by have := ih q (k + 1) (o + 1) (by omega); rw [hq] at this; exact this
      refine adv_mono (adv_sq (u := 0) (by omega) (adv_back a1) (fun z => ?_) (by omega)) (by omega)
      rcases clo (ps K ns m q (k + 1) (o + 1)).2.1 c (a1 z).2.1 with y | y | y
      · exact y
      · exact absurd y c0
      · exact absurd y c1
    by_cases e0 : nt = 0
    · subst e0; exact two 2 1 rfl rfl
    by_cases e1 : nt = 1
    · subst e1
      show adv N k 0 (if K.1 k = 271 then _ else _)
      by_cases c : K.1 k = 271
      · rw [if_pos c]; exact go 2 1 (21, 0) rfl rfl (by omega) (by omega)
      · rw [if_neg c]; exact stop
    by_cases e2 : nt = 2
    · subst e2; exact two 4 3 rfl rfl
    by_cases e3 : nt = 3
    · subst e3
      show adv N k 0 (if K.1 k = 272 then _ else _)
      by_cases c : K.1 k = 272
      · rw [if_pos c]; exact go 4 3 (20, 0) rfl rfl (by omega) (by omega)
      · rw [if_neg c]; exact stop
    by_cases e4 : nt = 4
    · subst e4
      show adv N k 1 (ntR (ntC K.1 2000 k) (ps K ns m 11 (k + ntC K.1 2000 k) o))
      have hc := ntC_r (ty := K.1) (N := N) (by unfold lsT at hN; omega) 2000 k hk
      have a1 : adv N (k + ntC K.1 2000 k) 1 (ps K ns m 11 (k + ntC K.1 2000 k) o) := ih 11 _ o hc
      intro h
      unfold ntR at h ⊢
      by_cases z : (ps K ns m 11 (k + ntC K.1 2000 k) o).1 = 0
      · rw [if_pos z]
        have h1 := a1 z
        simp only [List.length_append, List.length_replicate]
        by_cases y : ntC K.1 2000 k % 2 = 1
        · rw [if_pos y]
          simp only [List.length_cons, List.length_nil]
          omega
        · rw [if_neg y]
          simp only [List.length_nil]
          omega
      · rw [if_neg z] at h; exact absurd h z
    by_cases e5 : nt = 5
    · subst e5
      have hl : lpN 5 = 1 := rfl
      rw [hl, ps, if_neg (by decide), if_neg (by decide), if_neg (by decide), if_neg (by decide), if_neg (by decide), if_pos rfl]
      have a1 : adv N k 1 (ps K ns m 6 k o) := ih 6 k o hk
      refine adv_mono (adv_sq (u := 0) (by omega) a1 (fun z => ?_) (by omega)) (by omega)
      have hj := (a1 z).2.1
      generalize (ps K ns m 6 k o).2.1 = j at *
      by_cases c1 : K.1 j = 60
      · rw [if_pos c1]; exact cmpR j _ hj (by omega) (by omega)
      · rw [if_neg c1]
        by_cases c2 : K.1 j = 62
        · rw [if_pos c2]; exact cmpR j _ hj (by omega) (by omega)
        · rw [if_neg c2]
          by_cases c3 : K.1 j = 61
          · rw [if_pos c3]; exact cmpR j _ hj (by omega) (by omega)
          · rw [if_neg c3]; exact adv_fl (by decide)
    by_cases e6 : nt = 6
    · subst e6; exact two 8 7 rfl rfl
    by_cases e7 : nt = 7
    · subst e7
      show adv N k 0 (if K.1 k = 43 then _ else if K.1 k = 45 then _ else _)
      by_cases c : K.1 k = 43
      · rw [if_pos c]; exact go 8 7 (10, 0) rfl rfl (by omega) (by omega)
      · rw [if_neg c]
        by_cases c2 : K.1 k = 45
        · rw [if_pos c2]; exact go 8 7 (11, 0) rfl rfl (by omega) (by omega)
        · rw [if_neg c2]; exact stop
    by_cases e8 : nt = 8
    · subst e8; exact two 10 9 rfl rfl
    by_cases e9 : nt = 9
    · subst e9
      show adv N k 0 (if K.1 k = 42 then _ else if K.1 k = 47 then _ else if K.1 k = 37 then _ else _)
      by_cases c : K.1 k = 42
      · rw [if_pos c]; exact go 10 9 (12, 0) rfl rfl (by omega) (by omega)
      · rw [if_neg c]
        by_cases c2 : K.1 k = 47
        · rw [if_pos c2]; exact go 10 9 (13, 0) rfl rfl (by omega) (by omega)
        · rw [if_neg c2]
          by_cases c3 : K.1 k = 37
          · rw [if_pos c3]; exact go 10 9 (14, 0) rfl rfl (by omega) (by omega)
          · rw [if_neg c3]; exact stop
    by_cases e10 : nt = 10
    · subst e10
      show adv N k 1 (if K.1 k = 40 then _ else if K.1 k = 3 then _ else if K.1 k = 274 then _ else if K.1 k = 275 then _ else if K.1 k = 276 then _ else if K.1 k = 277 then _ else if K.1 k = 278 then _ else if K.1 k = 2 then _ else _)
      by_cases c : K.1 k = 40
      · rw [if_pos c]
        by_cases d : o = 8
        · rw [if_pos d]; exact adv_fl (by decide)
        · rw [if_neg d]; exact brk 6 41 rfl (by decide) (by decide) (by omega) (by omega)
      rw [if_neg c]
      by_cases c1 : K.1 k = 3
      · rw [if_pos c1]; exact one _ (by omega) (by omega)
      rw [if_neg c1]
      by_cases c2 : K.1 k = 274
      · rw [if_pos c2]; exact one _ (by omega) (by omega)
      rw [if_neg c2]
      by_cases c3 : K.1 k = 275
      · rw [if_pos c3]; exact one _ (by omega) (by omega)
      rw [if_neg c3]
      by_cases c4 : K.1 k = 276
      · rw [if_pos c4]; exact one _ (by omega) (by omega)
      rw [if_neg c4]
      by_cases c5 : K.1 k = 277
      · rw [if_pos c5]
        have := hlt k hk (by omega) (by omega)
        exact adv_mono (adv_back (ih 12 (k + 1) o (by omega))) (by decide)
      rw [if_neg c5]
      by_cases c6 : K.1 k = 278
      · rw [if_pos c6]
        have := hlt k hk (by omega) (by omega)
        exact adv_mono (adv_back (ih 13 (k + 1) o (by omega))) (by decide)
      rw [if_neg c6]
      by_cases c7 : K.1 k = 2
      · rw [if_pos c7]
        by_cases d : pixF (K.2.2.1 k) ns 0 = -1
        · rw [if_pos d]; exact adv_fl (by decide)
        · rw [if_neg d]; exact one _ (by omega) (by omega)
      · rw [if_neg c7]; exact adv_fl (by decide)
    by_cases e11 : nt = 11
    · subst e11
      show adv N k 1 (if K.1 k = 91 then _ else if K.1 k = 273 then _ else ps K ns m 5 k o)
      by_cases c : K.1 k = 91
      · rw [if_pos c]
        by_cases d : o = 8
        · rw [if_pos d]; exact adv_fl (by decide)
        · rw [if_neg d]; exact brk 0 93 rfl (by decide) (by decide) (by omega) (by omega)
      rw [if_neg c]
      by_cases c1 : K.1 k = 273
      · rw [if_pos c1]; exact one _ (by omega) (by omega)
      · rw [if_neg c1]; exact ih 5 k o hk
    · have hl : lpN nt = 1 := by unfold lpN; rw [if_neg (by omega)]
      rw [hl, ps, if_neg e0, if_neg e1, if_neg e2, if_neg e3, if_neg e4, if_neg e5, if_neg e6, if_neg e7, if_neg e8, if_neg e9, if_neg e10, if_neg e11]
      by_cases c : K.1 k = 40
      · rw [if_pos c]
        by_cases d : o = 8
        · rw [if_pos d]; exact adv_fl (by decide)
        rw [if_neg d]
        have hkN := hlt k hk (by omega) (by omega)
        have a1 : adv N (k + 1) 1 (ps K ns m 6 (k + 1) (o + 1)) := ih 6 (k + 1) (o + 1) (by omega)
        refine adv_mono (adv_sq (u := 0) (by omega) (adv_back a1) (fun z => ?_) (by omega)) (by omega)
        have hj := (a1 z).2.1
        generalize (ps K ns m 6 (k + 1) (o + 1)).2.1 = j at *
        by_cases c1 : K.1 j = 44
        · rw [if_pos c1]
          have hjN := hlt j hj (by omega) (by omega)
          have a2 : adv N (j + 1) 1 (ps K ns m 6 (j + 1) (o + 1)) := ih 6 (j + 1) (o + 1) (by omega)
          refine adv_mono (adv_sq (u := 0) (by omega) (adv_back a2) (fun z2 => ?_) (by omega)) (by omega)
          have hi := (a2 z2).2.1
          generalize (ps K ns m 6 (j + 1) (o + 1)).2.1 = i at *
          by_cases c2 : K.1 i = 41
          · rw [if_pos c2]
            have := hlt i hi (by omega) (by omega)
            exact adv_ok (by omega) (by omega) (by simp only [List.length_cons, List.length_nil]; omega)
          · rw [if_neg c2]; exact adv_fl (by decide)
        · rw [if_neg c1]; exact adv_fl (by decide)
      · rw [if_neg c]; exact adv_fl (by decide)
