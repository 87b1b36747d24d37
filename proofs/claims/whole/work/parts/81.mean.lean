/-! what words mean -/
abbrev bl1 (x : Int) : Prop := x = 0 ∨ x = 1
abbrev bigI (x : Int) : Prop := -1000000 ≤ x ∧ x ≤ 1000000
def clp (x : Int) : Int := if 1000000 < x then 1000000 else if x < -1000000 then -1000000 else x
def ovr (a b : Int) : Int := if b = 0 then 0 else if Int.tmod a b = 0 then Int.tdiv a b else if (a < 0 ↔ b < 0) then Int.tdiv a b else Int.tdiv a b - 1
def opv (s a b : Int) : Int := if s = 10 then clp (a + b) else if s = 11 then clp (a - b) else if s = 12 then clp (a * b) else if s = 13 then ovr a b else if s = 14 then (if b = 0 then 0 else a - b * ovr a b) else if s = 15 then (if a < b then a else b) else if s = 16 then (if b < a then a else b) else if s = 17 then (if a < b then 1 else 0) else if s = 18 then (if b < a then 1 else 0) else if s = 19 then (if a = b then 1 else 0) else if s = 20 then a * b else if 0 < a + b then 1 else 0
theorem clp_b (x : Int) : bigI (clp x) := by
  unfold clp
  by_cases c : 1000000 < x
  · rw [if_pos c]; decide
  · rw [if_neg c]
    by_cases d : x < -1000000
    · rw [if_pos d]; decide
    · rw [if_neg d]; exact ⟨by omega, by omega⟩
theorem td_b {a b : Int} (hb : b ≠ 0) : (Int.tdiv a b).natAbs ≤ a.natAbs ∧ (Int.tmod a b).natAbs < b.natAbs ∧ Int.tmod a b + Int.tdiv a b * b = a ∧ (0 ≤ a → 0 ≤ Int.tmod a b) ∧ (a < 0 → Int.tmod a b ≤ 0) := by
  refine ⟨?_, ?_, Int.tmod_add_tdiv_mul a b, fun h => Int.tmod_nonneg b h, fun h => ?_⟩
  · rw [Int.natAbs_tdiv]; exact Nat.div_le_self _ _
  · rw [Int.natAbs_tmod]; exact Nat.mod_lt _ (by omega)
  · have h1 := Int.tmod_nonneg b (show 0 ≤ -a by omega)
    rw [Int.neg_tmod] at h1
    omega
theorem ovr_b {a b : Int} (ha : bigI a) : bigI (ovr a b) ∧ (b ≠ 0 → (a - b * ovr a b).natAbs ≤ b.natAbs) := by
  unfold ovr
  by_cases z : b = 0
  · rw [if_pos z]; exact ⟨by decide, fun h => absurd z h⟩
  rw [if_neg z]
  obtain ⟨h1, h2, h3, h4, h5⟩ := td_b (a := a) z
  have hm : b * Int.tdiv a b = Int.tdiv a b * b := Int.mul_comm _ _
  have hm1 : b * (Int.tdiv a b - 1) = b * Int.tdiv a b - b := by rw [Int.mul_sub, Int.mul_one]
  by_cases c : Int.tmod a b = 0
  · rw [if_pos c]; exact ⟨⟨by omega, by omega⟩, fun _ => by omega⟩
  rw [if_neg c]
  by_cases d : a < 0 ↔ b < 0
  · rw [if_pos d]; exact ⟨⟨by omega, by omega⟩, fun _ => by omega⟩
  · rw [if_neg d]
    refine ⟨⟨?_, by omega⟩, fun _ => ?_⟩
    · -- the quotient is not above 0 and above the least
      by_cases e : Int.tdiv a b = -1000000
      · exfalso
        rw [e] at h3 hm
        omega
      · omega
    · rw [hm1, hm]
      by_cases e : a < 0
      · have := h5 e
        have : ¬ b < 0 := fun f => d ⟨fun _ => f, fun _ => e⟩
        omega
      · have := h4 (by omega)
        have : b < 0 := by
          by_cases f : b < 0
          · exact f
          · exact absurd ⟨fun g => absurd g e, fun g => absurd g f⟩ d
        omega
theorem opv_n {s a b : Int} (hs : 10 ≤ s ∧ s ≤ 16) (ha : bigI a) (hb : bigI b) : bigI (opv s a b) := by
  unfold opv
  by_cases c0 : s = 10
  · rw [if_pos c0]; exact clp_b _
  rw [if_neg c0]
  by_cases c1 : s = 11
  · rw [if_pos c1]; exact clp_b _
  rw [if_neg c1]
  by_cases c2 : s = 12
  · rw [if_pos c2]; exact clp_b _
  rw [if_neg c2]
  by_cases c3 : s = 13
  · rw [if_pos c3]; exact (ovr_b ha).1
  rw [if_neg c3]
  by_cases c4 : s = 14
  · rw [if_pos c4]
    by_cases z : b = 0
    · rw [if_pos z]; decide
    · rw [if_neg z]
      have := (ovr_b (b := b) ha).2 z
      generalize a - b * ovr a b = y at *
      exact ⟨by omega, by omega⟩
  rw [if_neg c4]
  by_cases c5 : s = 15
  · rw [if_pos c5]
    by_cases z : a < b
    · rw [if_pos z]; exact ha
    · rw [if_neg z]; exact hb
  rw [if_neg c5, if_pos (show s = 16 by omega)]
  by_cases z : b < a
  · rw [if_pos z]; exact ha
  · rw [if_neg z]; exact hb
theorem opv_c {s a b : Int} (hs : 17 ≤ s ∧ s ≤ 19) : bl1 (opv s a b) := by
  unfold opv
  rw [if_neg (show ¬ (s = 10) by omega), if_neg (show ¬ (s = 11) by omega), if_neg (show ¬ (s = 12) by omega), if_neg (show ¬ (s = 13) by omega), if_neg (show ¬ (s = 14) by omega), if_neg (show ¬ (s = 15) by omega), if_neg (show ¬ (s = 16) by omega)]
  by_cases c0 : s = 17
  · rw [if_pos c0]
    by_cases z : a < b
    · rw [if_pos z]; exact Or.inr rfl
    · rw [if_neg z]; exact Or.inl rfl
  rw [if_neg c0]
  by_cases c1 : s = 18
  · rw [if_pos c1]
    by_cases z : b < a
    · rw [if_pos z]; exact Or.inr rfl
    · rw [if_neg z]; exact Or.inl rfl
  rw [if_neg c1, if_pos (show s = 19 by omega)]
  by_cases z : a = b
  · rw [if_pos z]; exact Or.inr rfl
  · rw [if_neg z]; exact Or.inl rfl
theorem opv_b {s a b : Int} (hs : s = 20 ∨ s = 21) (ha : bl1 a) (hb : bl1 b) : bl1 (opv s a b) := by
  unfold opv
  rw [if_neg (show ¬ (s = 10) by omega), if_neg (show ¬ (s = 11) by omega), if_neg (show ¬ (s = 12) by omega), if_neg (show ¬ (s = 13) by omega), if_neg (show ¬ (s = 14) by omega), if_neg (show ¬ (s = 15) by omega), if_neg (show ¬ (s = 16) by omega), if_neg (show ¬ (s = 17) by omega), if_neg (show ¬ (s = 18) by omega), if_neg (show ¬ (s = 19) by omega)]
  by_cases c0 : s = 20
  · rw [if_pos c0]
    rcases ha with e | e <;> rcases hb with f | f <;> subst e <;> subst f <;> decide
  · rw [if_neg c0]
    by_cases z : 0 < a + b
    · rw [if_pos z]; exact Or.inr rfl
    · rw [if_neg z]; exact Or.inl rfl
-- ---- running
def stW (lim : Int) (ev : Int → Int) (c : Int × Int) (st : List Int) : Option (List Int) :=
  if c.1 ≤ 9 then (if (st.length : Int) < lim then some ((if c.1 = 0 then c.2 else if c.1 = 9 then 1 else ev c.1) :: st) else none)
  else if c.1 = 22 then (match st with
    | x :: r => if bl1 x then some ((1 - x) :: r) else none
    | [] => none)
  else (match st with
    | b :: a :: r => if (c.1 = 20 ∨ c.1 = 21) ∧ ¬ (bl1 a ∧ bl1 b) then none else some (opv c.1 a b :: r)
    | _ => none)
def runW (lim : Int) (ev : Int → Int) : CDs → List Int → Option (List Int)
  | [], st => some st
  | c :: w, st => (stW lim ev c st).bind (runW lim ev w)
theorem runW_app (lim : Int) (ev : Int → Int) : ∀ (w w' : CDs) (st : List Int), runW lim ev (w ++ w') st = (runW lim ev w st).bind (runW lim ev w') := by
  intro w
  induction w with
  | nil => intro w' st; rfl
  | cons c w ih =>
    intro w' st
    show (stW lim ev c st).bind (runW lim ev (w ++ w')) = ((stW lim ev c st).bind (runW lim ev w)).bind (runW lim ev w')
    rcases h : stW lim ev c st with _ | s
    · rfl
    · exact ih w' s
theorem runW_2 {lim : Int} {ev : Int → Int} {w w' : CDs} {st s1 s2 : List Int} (h : runW lim ev w st = some s1) (h2 : runW lim ev w' s1 = some s2) : runW lim ev (w ++ w') st = some s2 := by
  rw [runW_app, h]; exact h2
theorem stW_p {lim : Int} {ev : Int → Int} {c : Int × Int} {st : List Int} (h : c.1 ≤ 9) (hl : (st.length : Int) < lim) : runW lim ev [c] st = some ((if c.1 = 0 then c.2 else if c.1 = 9 then 1 else ev c.1) :: st) := by
  show (stW lim ev c st).bind (runW lim ev []) = _
  unfold stW
  rw [if_pos h, if_pos hl]; rfl
theorem stW_o {lim : Int} {ev : Int → Int} {s a b : Int} {st : List Int} (h : 10 ≤ s ∧ s ≤ 21) (hb : (s = 20 ∨ s = 21) → bl1 a ∧ bl1 b) : runW lim ev [(s, 0)] (b :: a :: st) = some (opv s a b :: st) := by
  show (stW lim ev (s, 0) (b :: a :: st)).bind (runW lim ev []) = _
  unfold stW
  rw [if_neg (show ¬ ((s, (0 : Int)).1 ≤ 9) from by show ¬ (s ≤ 9); omega), if_neg (show ¬ ((s, (0 : Int)).1 = 22) from by show ¬ (s = 22); omega)]
  show (if ((s = 20 ∨ s = 21) ∧ ¬ (bl1 a ∧ bl1 b)) then none else some (opv s a b :: st)).bind (runW lim ev []) = _
  rw [if_neg (fun z => z.2 (hb z.1))]; rfl
theorem stW_n {lim : Int} {ev : Int → Int} {x : Int} {st : List Int} (h : bl1 x) : runW lim ev [(22, 0)] (x :: st) = some ((1 - x) :: st) := by
  show (if bl1 x then some ((1 - x) :: st) else none).bind (runW lim ev []) = _
  rw [if_pos h]; rfl
def ntv (c : Nat) (v : Int) : Int := if c % 2 = 1 then 1 - v else v
theorem ntv_b {c : Nat} {v : Int} (h : bl1 v) : bl1 (ntv c v) := by
  unfold ntv
  by_cases z : c % 2 = 1
  · rw [if_pos z]; omega
  · rw [if_neg z]; exact h
theorem run_nots {lim : Int} {ev : Int → Int} {st : List Int} : ∀ (c : Nat) (v : Int), bl1 v → runW lim ev (List.replicate c (22, 0)) (v :: st) = some (ntv c v :: st) := by
  intro c
  induction c with
  | zero => intro v _; rfl
  | succ c ih =>
    intro v hv
    rw [List.replicate_succ]
    have h1 := stW_n (lim := lim) (ev := ev) (st := st) hv
    have h2 := ih (1 - v) (by omega)
    have e : ntv c (1 - v) = ntv (c + 1) v := by
      unfold ntv
      by_cases z : c % 2 = 1
      · rw [if_pos z, if_neg (by omega)]; omega
      · rw [if_neg z, if_pos (by omega)]
    rw [e] at h2
    exact runW_2 (w := [(22, 0)]) h1 h2
