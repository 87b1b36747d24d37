/-! the reference: laying moves out -/
theorem pigeon : ∀ (m n : Nat) (f : Nat → Nat), (∀ i, i < n → f i < m) → (∀ i j, i < n → j < n → f i = f j → i = j) → n ≤ m := by
  intro m
  induction m with
  | zero =>
    intro n f h1 h2
    cases n with
    | zero => exact Nat.le_refl 0
    | succ n => exact absurd (h1 0 (by omega)) (by omega)
  | succ m ih =>
    intro n f h1 h2
    cases n with
    | zero => omega
    | succ n =>
      -- move what stands at n out of the way of m
      have key := ih n (fun i => if f i = m then f n else f i) (by
        intro i hi
        have a := h1 i (by omega)
        have b := h1 n (by omega)
        by_cases e : f i = m
        · simp only [e, if_true]
          have : f n ≠ m := fun e2 => by have := h2 i n (by omega) (by omega) (by omega); omega
          omega
        · simp only [e, if_false]; omega) (by
        intro i j hi hj he
        by_cases e1 : f i = m <;> by_cases e2 : f j = m <;> simp only [e1, e2, if_true, if_false] at he
        · exact h2 i j (by omega) (by omega) (by omega)
        · have := h2 n j (by omega) (by omega) he; omega
        · have := h2 i n (by omega) (by omega) he; omega
        · exact h2 i j (by omega) (by omega) he)
      omega
/-- the same for rows of numbers -/
theorem pigeonI {m n : Int} {f : Int → Int} (hn : 0 ≤ n) (hm : 0 ≤ m) (h1 : ∀ i, 0 ≤ i → i < n → 0 ≤ f i ∧ f i < m) (h2 : ∀ i j, 0 ≤ i → i < n → 0 ≤ j → j < n → f i = f j → i = j) : n ≤ m := by
  have := pigeon m.toNat n.toNat (fun i => (f i).toNat) (by
    intro i hi
    have := h1 i (by omega) (by omega)
    show (f i).toNat < _
    omega) (by
    intro i j hi hj he
    have a := h1 i (by omega) (by omega)
    have b := h1 j (by omega) (by omega)
    have he' : (f i).toNat = (f j).toNat := he
    have := h2 i j (by omega) (by omega) (by omega) (by omega) (by omega)
    omega)
  omega
/-- and one place of the room is not taken -/
theorem pigeonX {m n p : Int} {f : Int → Int} (hn : 0 ≤ n) (hp : 0 ≤ p ∧ p < m) (h1 : ∀ i, 0 ≤ i → i < n → 0 ≤ f i ∧ f i < m) (h2 : ∀ i j, 0 ≤ i → i < n → 0 ≤ j → j < n → f i = f j → i = j) (h3 : ∀ i, 0 ≤ i → i < n → f i ≠ p) : n < m := by
  have := pigeonI (m := m) (n := n + 1) (f := fun i => if i = n then p else f i) (by omega) (by omega) (by
    intro i a b
    by_cases e : i = n
    · simp only [e, if_true]; exact hp
    · simp only [e, if_false]; exact h1 i a (by omega)) (by
    intro i j a b c d he
    by_cases e1 : i = n <;> by_cases e2 : j = n <;> simp only [e1, e2, if_true, if_false] at he
    · omega
    · exact absurd he.symm (h3 j c (by omega))
    · exact absurd he (h3 i a (by omega))
    · exact h2 i j a (by omega) c (by omega) he)
  omega
