/-! the game, the slate and the moves as plain data -/
/-- numbers (0 fields 1 pieces 2 rules 3 stuck); rows (0 starts 1 owners 2 kinds 3 pieces 4 ways 5 numbers 6 ever); tests; letters of names -/
abbrev GM : Type := (Int → Int) × (Int → Int → Int) × (Int → Int → Int → Int → Int → Int → Int) × (Int → Int → Int)
def qF (G : GM) : Int := G.1 0
def qP (G : GM) : Int := G.1 1
def qR (G : GM) : Int := G.1 2
def qU (G : GM) : Int := G.1 3
def qS (G : GM) (k : Int) : Int := G.2.1 0 k
def qO (G : GM) (k : Int) : Int := G.2.1 1 k
def qK (G : GM) (r : Int) : Int := G.2.1 2 r
def qI (G : GM) (r : Int) : Int := G.2.1 3 r
def qW (G : GM) (r : Int) : Int := G.2.1 4 r
def qN (G : GM) (r : Int) : Int := G.2.1 5 r
def qE (G : GM) (r : Int) : Int := G.2.1 6 r
def qT (G : GM) (r spot goal who a b : Int) : Int := G.2.2.1 r spot goal who a b
def qL (G : GM) (k j : Int) : Int := G.2.2.2 k j
/-- a slate: which rule is in a place; of each rule whether it is struck, turned, and its number -/
abbrev SL : Type := (Int → Int) × (Int → Int) × (Int → Int) × (Int → Int)
def sA (s : SL) (p : Int) : Int := s.1 p
def sX (s : SL) (r : Int) : Int := s.2.1 r
def sT (s : SL) (r : Int) : Int := s.2.2.1 r
def sN (s : SL) (r : Int) : Int := s.2.2.2 r
def hasN (G : GM) (r : Int) : Prop := qK G r < 2 ∧ qW G r ≠ 2
def GOK (G : GM) : Prop :=
  (0 ≤ qF G ∧ qF G ≤ 9) ∧ (0 ≤ qP G ∧ qP G ≤ 2) ∧ (0 ≤ qR G ∧ qR G ≤ 12) ∧ (0 ≤ qU G ∧ qU G ≤ 2) ∧
  (qF G = 0 → qP G = 0 ∧ qR G = 0 ∧ qU G = 0) ∧
  (∀ k, 0 ≤ k → k < qP G → 0 ≤ qS G k ∧ qS G k < qF G ∧ 0 ≤ qO G k ∧ qO G k ≤ 2) ∧
  (∀ r, 0 ≤ r → r < qR G → (qE G r = 0 ∨ qE G r = 1) ∧ 0 ≤ qK G r ∧ qK G r ≤ 3 ∧ (qK G r < 2 → 0 ≤ qI G r ∧ qI G r < qP G ∧ 0 ≤ qW G r ∧ qW G r ≤ 2 ∧ (qW G r = 2 → qN G r = 0) ∧ (qW G r ≠ 2 → 1 ≤ qN G r ∧ qN G r ≤ 3)) ∧ (2 ≤ qK G r → qI G r = -1 ∧ qW G r = -1 ∧ qN G r = 0)) ∧
  (∀ r a b c d e, qT G r a b c d e = 0 ∨ qT G r a b c d e = 1) ∧
  (∀ r a b c d e f, 0 ≤ r → r < qR G → qP G ≤ 1 → qT G r a b c d e = qT G r a b c d f) ∧
  (∀ r a b c d e d' e', 0 ≤ r → r < qR G → qP G ≤ 0 → qT G r a b c d e = qT G r a b c d' e')
def SOK (G : GM) (s : SL) : Prop :=
  (∀ p, 0 ≤ p → p < qR G → 0 ≤ sA s p ∧ sA s p < qR G) ∧
  (∀ p q, 0 ≤ p → p < qR G → 0 ≤ q → q < qR G → sA s p = sA s q → p = q) ∧
  (∀ r, 0 ≤ r → r < qR G → (sX s r = 0 ∨ sX s r = 1) ∧ (sT s r = 0 ∨ sT s r = 1) ∧ (hasN G r → 1 ≤ sN s r ∧ sN s r ≤ 3) ∧ (¬ hasN G r → sN s r = 0))
/-- positions -/
def qPos (G : GM) : Int := if qP G = 0 then 2 else if qP G = 1 then 2 * (qF G + 1) else 2 * ((qF G + 1) * (qF G + 1))
def spt (G : GM) (p k : Int) : Int := if qP G ≤ k then 0 else if k + 1 < qP G then p / 2 / (qF G + 1) % (qF G + 1) else p / 2 % (qF G + 1)
def beh (G : GM) (p k g : Int) : Int :=
  if qP G = 0 then 1 - p % 2 else if qP G = 1 then 2 * g + 1 - p % 2 else if k = 0 then 2 * ((qF G + 1) * g + spt G p 1) + 1 - p % 2 else 2 * ((qF G + 1) * spt G p 0 + g) + 1 - p % 2
def beg (G : GM) (d : Int) : Int :=
  if qP G = 0 then d % 2 else if qP G = 1 then 2 * qS G 0 + d % 2 else 2 * ((qF G + 1) * qS G 0 + qS G 1) + d % 2
theorem F_cases {G : GM} (h : 0 ≤ qF G ∧ qF G ≤ 9) : qF G = 0 ∨ qF G = 1 ∨ qF G = 2 ∨ qF G = 3 ∨ qF G = 4 ∨ qF G = 5 ∨ qF G = 6 ∨ qF G = 7 ∨ qF G = 8 ∨ qF G = 9 := by omega
theorem P_cases {G : GM} (h : 0 ≤ qP G ∧ qP G ≤ 2) : qP G = 0 ∨ qP G = 1 ∨ qP G = 2 := by omega
theorem qPos_le {G : GM} (h : GOK G) : 2 ≤ qPos G ∧ qPos G ≤ 200 := by
  obtain ⟨h1, h2, -⟩ := h
  unfold qPos
  generalize qF G = f at *
  rcases P_cases h2 with e | e | e <;> rw [e] <;> simp only [Int.reduceEq, reduceIte]
  · omega
  · omega
  · have hf : f = 0 ∨ f = 1 ∨ f = 2 ∨ f = 3 ∨ f = 4 ∨ f = 5 ∨ f = 6 ∨ f = 7 ∨ f = 8 ∨ f = 9 := by omega
    rcases hf with e | e | e | e | e | e | e | e | e | e <;> subst e <;> omega
theorem spt_r {G : GM} (h : GOK G) (p k : Int) (hp : 0 ≤ p) : 0 ≤ spt G p k ∧ spt G p k ≤ qF G := by
  obtain ⟨h1, h2, -⟩ := h
  unfold spt
  by_cases a : qP G ≤ k
  · rw [if_pos a]; omega
  · rw [if_neg a]
    by_cases b : k + 1 < qP G
    · rw [if_pos b]
      have := Int.emod_nonneg (p / 2 / (qF G + 1)) (show qF G + 1 ≠ 0 by omega)
      have := Int.emod_lt_of_pos (p / 2 / (qF G + 1)) (show 0 < qF G + 1 by omega)
      omega
    · rw [if_neg b]
      have := Int.emod_nonneg (p / 2) (show qF G + 1 ≠ 0 by omega)
      have := Int.emod_lt_of_pos (p / 2) (show 0 < qF G + 1 by omega)
      omega
theorem beh_r {G : GM} (h : GOK G) {p k g : Int} (hp : 0 ≤ p) (hg : 0 ≤ g ∧ g ≤ qF G) : 0 ≤ beh G p k g ∧ beh G p k g < qPos G := by
  have hs0 := spt_r h p 0 hp
  have hs1 := spt_r h p 1 hp
  obtain ⟨h1, h2, -⟩ := h
  unfold beh qPos
  rcases P_cases h2 with e | e | e <;> rw [e] <;> simp only [Int.reduceEq, if_true, if_false, reduceIte]
  · omega
  · omega
  · generalize spt G p 0 = s0 at *
    generalize spt G p 1 = s1 at *
    generalize qF G = f at *
    have hf : f = 0 ∨ f = 1 ∨ f = 2 ∨ f = 3 ∨ f = 4 ∨ f = 5 ∨ f = 6 ∨ f = 7 ∨ f = 8 ∨ f = 9 := by omega
    by_cases hk : k = 0
    · rw [if_pos hk]
      rcases hf with e | e | e | e | e | e | e | e | e | e <;> subst e <;> omega
    · rw [if_neg hk]
      rcases hf with e | e | e | e | e | e | e | e | e | e <;> subst e <;> omega
theorem beg_r {G : GM} (h : GOK G) {d : Int} : 0 ≤ beg G d ∧ beg G d < qPos G := by
  obtain ⟨h1, h2, -, -, h5, h6, -⟩ := h
  unfold beg qPos
  rcases P_cases h2 with e | e | e
  · rw [e]; simp only [reduceIte]; omega
  · have := h6 0 (by omega) (by omega)
    rw [e]; simp only [Int.reduceEq, reduceIte]; omega
  · have := h6 0 (by omega) (by omega)
    have := h6 1 (by omega) (by omega)
    rw [e]; simp only [Int.reduceEq, reduceIte]
    generalize qS G 0 = s0 at *
    generalize qS G 1 = s1 at *
    generalize qF G = f at *
    have hf : f = 0 ∨ f = 1 ∨ f = 2 ∨ f = 3 ∨ f = 4 ∨ f = 5 ∨ f = 6 ∨ f = 7 ∨ f = 8 ∨ f = 9 := by omega
    rcases hf with e | e | e | e | e | e | e | e | e | e <;> subst e <;> omega
theorem spt_beh {G : GM} (h : GOK G) {p k g j : Int} (hp : 0 ≤ p) (hk : 0 ≤ k ∧ k < qP G) (hg : 0 ≤ g ∧ g ≤ qF G) (hj : 0 ≤ j ∧ j < qP G) : spt G (beh G p k g) j = if j = k then g else spt G p j := by
  have hs0 := spt_r h p 0 hp
  have hs1 := spt_r h p 1 hp
  obtain ⟨h1, h2, -⟩ := h
  rcases P_cases h2 with e | e | e
  · omega
  · have : k = 0 := by omega
    have : j = 0 := by omega
    subst k; subst j
    unfold spt beh
    rw [e]
    simp only [Int.reduceEq, Int.reduceLE, Int.reduceLT, Int.reduceAdd, reduceIte]
    rw [show (2 * g + 1 - p % 2) / 2 = g by omega]
    exact Int.emod_eq_of_lt (by omega) (by omega)
  · have hk2 : k = 0 ∨ k = 1 := by omega
    have hj2 : j = 0 ∨ j = 1 := by omega
    have e0 : ∀ q, spt G q 0 = q / 2 / (qF G + 1) % (qF G + 1) := fun q => by unfold spt; rw [e]; rfl
    have e1 : ∀ q, spt G q 1 = q / 2 % (qF G + 1) := fun q => by unfold spt; rw [e]; rfl
    have b0 : beh G p 0 g = 2 * ((qF G + 1) * g + spt G p 1) + 1 - p % 2 := by unfold beh; rw [e]; rfl
    have b1 : beh G p 1 g = 2 * ((qF G + 1) * spt G p 0 + g) + 1 - p % 2 := by unfold beh; rw [e]; rfl
    have q0 : (if (0 : Int) = 0 then g else spt G p 0) = g := rfl
    have q1 : (if (1 : Int) = 0 then g else spt G p 1) = spt G p 1 := rfl
    have q2 : (if (0 : Int) = 1 then g else spt G p 0) = spt G p 0 := rfl
    have q3 : (if (1 : Int) = 1 then g else spt G p 1) = g := rfl
    rcases hk2 with k0 | k0 <;> rcases hj2 with j0 | j0 <;> subst k0 <;> subst j0
    · rw [q0, b0, e0]
      generalize spt G p 1 = s1 at *
      clear e0 e1 b0 b1 q0 q1 q2 q3
      generalize qF G = f at *
      have hf : f = 0 ∨ f = 1 ∨ f = 2 ∨ f = 3 ∨ f = 4 ∨ f = 5 ∨ f = 6 ∨ f = 7 ∨ f = 8 ∨ f = 9 := by omega
      rcases hf with e | e | e | e | e | e | e | e | e | e <;> subst e <;> omega
    · rw [q1, b0, e1 (2 * _ + 1 - _)]
      generalize spt G p 1 = s1 at *
      clear e0 e1 b0 b1 q0 q1 q2 q3
      generalize qF G = f at *
      have hf : f = 0 ∨ f = 1 ∨ f = 2 ∨ f = 3 ∨ f = 4 ∨ f = 5 ∨ f = 6 ∨ f = 7 ∨ f = 8 ∨ f = 9 := by omega
      rcases hf with e | e | e | e | e | e | e | e | e | e <;> subst e <;> omega
    · rw [q2, b1, e0 (2 * _ + 1 - _)]
      generalize spt G p 0 = s0 at *
      clear e0 e1 b0 b1 q0 q1 q2 q3
      generalize qF G = f at *
      have hf : f = 0 ∨ f = 1 ∨ f = 2 ∨ f = 3 ∨ f = 4 ∨ f = 5 ∨ f = 6 ∨ f = 7 ∨ f = 8 ∨ f = 9 := by omega
      rcases hf with e | e | e | e | e | e | e | e | e | e <;> subst e <;> omega
    · rw [q3, b1, e1]
      generalize spt G p 0 = s0 at *
      clear e0 e1 b0 b1 q0 q1 q2 q3
      generalize qF G = f at *
      have hf : f = 0 ∨ f = 1 ∨ f = 2 ∨ f = 3 ∨ f = 4 ∨ f = 5 ∨ f = 6 ∨ f = 7 ∨ f = 8 ∨ f = 9 := by omega
      rcases hf with e | e | e | e | e | e | e | e | e | e <;> subst e <;> omega
-- ---- rules and moves
/-- does the test of a rule hold of a move -/
def hold (G : GM) (r p k g : Int) : Int := qT G r (spt G p k) g (p % 2) (if 2 ≤ qK G r ∧ k = 0 then g else spt G p 0) (if 2 ≤ qK G r ∧ k = 1 then g else spt G p 1)
def kNow (G : GM) (s : SL) (r : Int) : Int := if sT s r = 0 then qK G r else if qK G r = 0 then 1 else if qK G r = 1 then 0 else if qK G r = 2 then 3 else 2
def fOr (G : GM) (g : Int) : Int := if 0 ≤ g ∧ g < qF G then g else -1
def goalQ (G : GM) (s : SL) (r x : Int) : Int := if qW G r = 2 then qF G else if qW G r = 0 then fOr G (x + sN s r) else fOr G (x - sN s r)
def lawS (G : GM) (s : SL) (p k g : Int) : Nat → Int
  | 0 => 0
  | n + 1 => if sX s (sA s n) = 0 ∧ qK G (sA s n) < 2 ∧ qI G (sA s n) = k ∧ goalQ G s (sA s n) (spt G p k) = g ∧ hold G (sA s n) p k g = 1 then (if kNow G s (sA s n) = 0 then 1 else 0) else lawS G s p k g n
def law (G : GM) (s : SL) (p k g : Int) : Int := if spt G p k = qF G ∨ (qO G k ≠ 2 ∧ qO G k ≠ p % 2) then 0 else lawS G s p k g (qR G).toNat
def leadS (G : GM) (s : SL) (p k g : Int) : Nat → Int
  | 0 => beh G p k g
  | n + 1 => if sX s (sA s n) = 0 ∧ 2 ≤ qK G (sA s n) ∧ hold G (sA s n) p k g = 1 then (if kNow G s (sA s n) = 2 then -1 else -2) else leadS G s p k g n
def lead (G : GM) (s : SL) (p k g : Int) : Int := leadS G s p k g (qR G).toNat
def okc (G : GM) (s : SL) (p c : Int) : Bool := decide (c / 10 < qP G) && decide (c % 10 ≤ qF G) && decide (law G s p (c / 10) (c % 10) = 1)
def nxt (G : GM) (s : SL) (p c : Int) : Int := lead G s p (c / 10) (c % 10)
/-- the lawful moves of a position, by their codes -/
def cds (G : GM) (s : SL) (p : Int) : List Int := ((List.range 20).map (fun n : Nat => (n : Int))).filter (okc G s p)
