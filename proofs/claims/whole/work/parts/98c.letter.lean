/-! letters of names -/
theorem nm_ok {ls : List Int} (h : nmL ls) : ∃ N : Nat, nm256 ls 0 = (N : Int) ∧ N < 256 ^ ls.length ∧ 256 ^ (ls.length - 1) ≤ N ∧ (∀ j : Nat, j < ls.length → ((N / 2 ^ (8 * (ls.length - 1 - j)) % 256 : Nat) : Int) = ls.getD j 0) := by
  rcases ls with _ | ⟨a, _ | ⟨b, _ | ⟨c, _ | ⟨d, _ | ⟨e, _ | ⟨f, _ | ⟨g, l⟩⟩⟩⟩⟩⟩⟩
  · have := h.1; simp only [List.length_nil] at this; omega
  · have ka := h.2.2 a (by simp)
    have ew : nm256 [a] 0 = 256 * 0 + a := rfl
    have hl : ([a] : List Int).length = 1 := rfl
    obtain ⟨M, hM⟩ : ∃ M : Nat, (M : Int) = a := ⟨(a).toNat, by omega⟩
    refine ⟨M, by rw [ew]; omega, ?_, ?_, fun j hj => ?_⟩
    · rw [hl, show (256 : Nat) ^ 1 = 256 by decide]; omega
    · rw [hl, show (256 : Nat) ^ (1 - 1) = 1 by decide]; omega
    · rw [hl] at hj ⊢
      have z0 : j = 0 := by omega
      subst z0
      rw [show (2 : Nat) ^ (8 * (1 - 1 - 0)) = 1 by decide]
      show ((M / 1 % 256 : Nat) : Int) = a
      omega
  · have ka := h.2.2 a (by simp)
    have kb := h.2.2 b (by simp)
    have ew : nm256 [a, b] 0 = 256 * (256 * 0 + a) + b := rfl
    have hl : ([a, b] : List Int).length = 2 := rfl
    obtain ⟨M, hM⟩ : ∃ M : Nat, (M : Int) = (256 * a + b) := ⟨((256 * a + b)).toNat, by omega⟩
    refine ⟨M, by rw [ew]; omega, ?_, ?_, fun j hj => ?_⟩
    · rw [hl, show (256 : Nat) ^ 2 = 65536 by decide]; omega
    · rw [hl, show (256 : Nat) ^ (2 - 1) = 256 by decide]; omega
    · rw [hl] at hj ⊢
      have hj2 : j = 0 ∨ j = 1 := by omega
      rcases hj2 with z0 | z0
      · subst z0
        rw [show (2 : Nat) ^ (8 * (2 - 1 - 0)) = 256 by decide]
        show ((M / 256 % 256 : Nat) : Int) = a
        omega
      · subst z0
        rw [show (2 : Nat) ^ (8 * (2 - 1 - 1)) = 1 by decide]
        show ((M / 1 % 256 : Nat) : Int) = b
        omega
  · have ka := h.2.2 a (by simp)
    have kb := h.2.2 b (by simp)
    have kc := h.2.2 c (by simp)
    have ew : nm256 [a, b, c] 0 = 256 * (256 * (256 * 0 + a) + b) + c := rfl
    have hl : ([a, b, c] : List Int).length = 3 := rfl
    obtain ⟨M, hM⟩ : ∃ M : Nat, (M : Int) = (256 * (256 * a + b) + c) := ⟨((256 * (256 * a + b) + c)).toNat, by omega⟩
    refine ⟨M, by rw [ew]; omega, ?_, ?_, fun j hj => ?_⟩
    · rw [hl, show (256 : Nat) ^ 3 = 16777216 by decide]; omega
    · rw [hl, show (256 : Nat) ^ (3 - 1) = 65536 by decide]; omega
    · rw [hl] at hj ⊢
      have hj2 : j = 0 ∨ j = 1 ∨ j = 2 := by omega
      rcases hj2 with z0 | z0 | z0
      · subst z0
        rw [show (2 : Nat) ^ (8 * (3 - 1 - 0)) = 65536 by decide]
        show ((M / 65536 % 256 : Nat) : Int) = a
        omega
      · subst z0
        rw [show (2 : Nat) ^ (8 * (3 - 1 - 1)) = 256 by decide]
        show ((M / 256 % 256 : Nat) : Int) = b
        omega
      · subst z0
        rw [show (2 : Nat) ^ (8 * (3 - 1 - 2)) = 1 by decide]
        show ((M / 1 % 256 : Nat) : Int) = c
        omega
  · have ka := h.2.2 a (by simp)
    have kb := h.2.2 b (by simp)
    have kc := h.2.2 c (by simp)
    have kd := h.2.2 d (by simp)
    have ew : nm256 [a, b, c, d] 0 = 256 * (256 * (256 * (256 * 0 + a) + b) + c) + d := rfl
    have hl : ([a, b, c, d] : List Int).length = 4 := rfl
    obtain ⟨M, hM⟩ : ∃ M : Nat, (M : Int) = (256 * (256 * (256 * a + b) + c) + d) := ⟨((256 * (256 * (256 * a + b) + c) + d)).toNat, by omega⟩
    refine ⟨M, by rw [ew]; omega, ?_, ?_, fun j hj => ?_⟩
    · rw [hl, show (256 : Nat) ^ 4 = 4294967296 by decide]; omega
    · rw [hl, show (256 : Nat) ^ (4 - 1) = 16777216 by decide]; omega
    · rw [hl] at hj ⊢
      have hj2 : j = 0 ∨ j = 1 ∨ j = 2 ∨ j = 3 := by omega
      rcases hj2 with z0 | z0 | z0 | z0
      · subst z0
        rw [show (2 : Nat) ^ (8 * (4 - 1 - 0)) = 16777216 by decide]
        show ((M / 16777216 % 256 : Nat) : Int) = a
        omega
      · subst z0
        rw [show (2 : Nat) ^ (8 * (4 - 1 - 1)) = 65536 by decide]
        show ((M / 65536 % 256 : Nat) : Int) = b
        omega
      · subst z0
        rw [show (2 : Nat) ^ (8 * (4 - 1 - 2)) = 256 by decide]
        show ((M / 256 % 256 : Nat) : Int) = c
        omega
      · subst z0
        rw [show (2 : Nat) ^ (8 * (4 - 1 - 3)) = 1 by decide]
        show ((M / 1 % 256 : Nat) : Int) = d
        omega
  · have ka := h.2.2 a (by simp)
    have kb := h.2.2 b (by simp)
    have kc := h.2.2 c (by simp)
    have kd := h.2.2 d (by simp)
    have ke := h.2.2 e (by simp)
    have ew : nm256 [a, b, c, d, e] 0 = 256 * (256 * (256 * (256 * (256 * 0 + a) + b) + c) + d) + e := rfl
    have hl : ([a, b, c, d, e] : List Int).length = 5 := rfl
    obtain ⟨M, hM⟩ : ∃ M : Nat, (M : Int) = (256 * (256 * (256 * (256 * a + b) + c) + d) + e) := ⟨((256 * (256 * (256 * (256 * a + b) + c) + d) + e)).toNat, by omega⟩
    refine ⟨M, by rw [ew]; omega, ?_, ?_, fun j hj => ?_⟩
    · rw [hl, show (256 : Nat) ^ 5 = 1099511627776 by decide]; omega
    · rw [hl, show (256 : Nat) ^ (5 - 1) = 4294967296 by decide]; omega
    · rw [hl] at hj ⊢
      have hj2 : j = 0 ∨ j = 1 ∨ j = 2 ∨ j = 3 ∨ j = 4 := by omega
      rcases hj2 with z0 | z0 | z0 | z0 | z0
      · subst z0
        rw [show (2 : Nat) ^ (8 * (5 - 1 - 0)) = 4294967296 by decide]
        show ((M / 4294967296 % 256 : Nat) : Int) = a
        omega
      · subst z0
        rw [show (2 : Nat) ^ (8 * (5 - 1 - 1)) = 16777216 by decide]
        show ((M / 16777216 % 256 : Nat) : Int) = b
        omega
      · subst z0
        rw [show (2 : Nat) ^ (8 * (5 - 1 - 2)) = 65536 by decide]
        show ((M / 65536 % 256 : Nat) : Int) = c
        omega
      · subst z0
        rw [show (2 : Nat) ^ (8 * (5 - 1 - 3)) = 256 by decide]
        show ((M / 256 % 256 : Nat) : Int) = d
        omega
      · subst z0
        rw [show (2 : Nat) ^ (8 * (5 - 1 - 4)) = 1 by decide]
        show ((M / 1 % 256 : Nat) : Int) = e
        omega
  · have ka := h.2.2 a (by simp)
    have kb := h.2.2 b (by simp)
    have kc := h.2.2 c (by simp)
    have kd := h.2.2 d (by simp)
    have ke := h.2.2 e (by simp)
    have kf := h.2.2 f (by simp)
    have ew : nm256 [a, b, c, d, e, f] 0 = 256 * (256 * (256 * (256 * (256 * (256 * 0 + a) + b) + c) + d) + e) + f := rfl
    have hl : ([a, b, c, d, e, f] : List Int).length = 6 := rfl
    obtain ⟨M, hM⟩ : ∃ M : Nat, (M : Int) = (256 * (256 * (256 * (256 * (256 * a + b) + c) + d) + e) + f) := ⟨((256 * (256 * (256 * (256 * (256 * a + b) + c) + d) + e) + f)).toNat, by omega⟩
    refine ⟨M, by rw [ew]; omega, ?_, ?_, fun j hj => ?_⟩
    · rw [hl, show (256 : Nat) ^ 6 = 281474976710656 by decide]; omega
    · rw [hl, show (256 : Nat) ^ (6 - 1) = 1099511627776 by decide]; omega
    · rw [hl] at hj ⊢
      have hj2 : j = 0 ∨ j = 1 ∨ j = 2 ∨ j = 3 ∨ j = 4 ∨ j = 5 := by omega
      rcases hj2 with z0 | z0 | z0 | z0 | z0 | z0
      · subst z0
        rw [show (2 : Nat) ^ (8 * (6 - 1 - 0)) = 1099511627776 by decide]
        show ((M / 1099511627776 % 256 : Nat) : Int) = a
        omega
      · subst z0
        rw [show (2 : Nat) ^ (8 * (6 - 1 - 1)) = 4294967296 by decide]
        show ((M / 4294967296 % 256 : Nat) : Int) = b
        omega
      · subst z0
        rw [show (2 : Nat) ^ (8 * (6 - 1 - 2)) = 16777216 by decide]
        show ((M / 16777216 % 256 : Nat) : Int) = c
        omega
      · subst z0
        rw [show (2 : Nat) ^ (8 * (6 - 1 - 3)) = 65536 by decide]
        show ((M / 65536 % 256 : Nat) : Int) = d
        omega
      · subst z0
        rw [show (2 : Nat) ^ (8 * (6 - 1 - 4)) = 256 by decide]
        show ((M / 256 % 256 : Nat) : Int) = e
        omega
      · subst z0
        rw [show (2 : Nat) ^ (8 * (6 - 1 - 5)) = 1 by decide]
        show ((M / 1 % 256 : Nat) : Int) = f
        omega
  · have := h.2.1; simp only [List.length_cons] at this; omega
theorem nm_ok2 {ls : List Int} (h : nmL ls) : 0 ≤ nm32 ls 33554432 ∧ nm32 ls 33554432 < 1073741824 ∧ (∀ j : Nat, j < 6 → nm32 ls 33554432 / 2 ^ (5 * (5 - j)) % 32 = if j < ls.length then ls.getD j 0 - 96 else 0) := by
  rcases ls with _ | ⟨a, _ | ⟨b, _ | ⟨c, _ | ⟨d, _ | ⟨e, _ | ⟨f, _ | ⟨g, l⟩⟩⟩⟩⟩⟩⟩
  · have := h.1; simp only [List.length_nil] at this; omega
  · have ha := h.2.2 a (by simp)
    have ew0 : nm32 [a] 33554432 = ((a - 96) * 33554432 + 0) := rfl
    have ew : nm32 [a] 33554432 = (a - 96) * 33554432 := by rw [ew0]; omega
    rw [ew]
    refine ⟨by omega, by omega, fun j hj => ?_⟩
    have : j = 0 ∨ j = 1 ∨ j = 2 ∨ j = 3 ∨ j = 4 ∨ j = 5 := by omega
    rcases this with z | z | z | z | z | z
    · subst z; show ((a - 96) * 33554432) / 33554432 % 32 = a - 96; omega
    · subst z; show ((a - 96) * 33554432) / 1048576 % 32 = 0; omega
    · subst z; show ((a - 96) * 33554432) / 32768 % 32 = 0; omega
    · subst z; show ((a - 96) * 33554432) / 1024 % 32 = 0; omega
    · subst z; show ((a - 96) * 33554432) / 32 % 32 = 0; omega
    · subst z; show ((a - 96) * 33554432) / 1 % 32 = 0; omega
  · have ha := h.2.2 a (by simp)
    have hb := h.2.2 b (by simp)
    have ew0 : nm32 [a, b] 33554432 = ((a - 96) * 33554432 + ((b - 96) * 1048576 + 0)) := rfl
    have ew : nm32 [a, b] 33554432 = (a - 96) * 33554432 + (b - 96) * 1048576 := by rw [ew0]; omega
    rw [ew]
    refine ⟨by omega, by omega, fun j hj => ?_⟩
    have : j = 0 ∨ j = 1 ∨ j = 2 ∨ j = 3 ∨ j = 4 ∨ j = 5 := by omega
    rcases this with z | z | z | z | z | z
    · subst z; show ((a - 96) * 33554432 + (b - 96) * 1048576) / 33554432 % 32 = a - 96; omega
    · subst z; show ((a - 96) * 33554432 + (b - 96) * 1048576) / 1048576 % 32 = b - 96; omega
    · subst z; show ((a - 96) * 33554432 + (b - 96) * 1048576) / 32768 % 32 = 0; omega
    · subst z; show ((a - 96) * 33554432 + (b - 96) * 1048576) / 1024 % 32 = 0; omega
    · subst z; show ((a - 96) * 33554432 + (b - 96) * 1048576) / 32 % 32 = 0; omega
    · subst z; show ((a - 96) * 33554432 + (b - 96) * 1048576) / 1 % 32 = 0; omega
  · have ha := h.2.2 a (by simp)
    have hb := h.2.2 b (by simp)
    have hc := h.2.2 c (by simp)
    have ew0 : nm32 [a, b, c] 33554432 = ((a - 96) * 33554432 + ((b - 96) * 1048576 + ((c - 96) * 32768 + 0))) := rfl
    have ew : nm32 [a, b, c] 33554432 = (a - 96) * 33554432 + (b - 96) * 1048576 + (c - 96) * 32768 := by rw [ew0]; omega
    rw [ew]
    refine ⟨by omega, by omega, fun j hj => ?_⟩
    have : j = 0 ∨ j = 1 ∨ j = 2 ∨ j = 3 ∨ j = 4 ∨ j = 5 := by omega
    rcases this with z | z | z | z | z | z
    · subst z; show ((a - 96) * 33554432 + (b - 96) * 1048576 + (c - 96) * 32768) / 33554432 % 32 = a - 96; omega
    · subst z; show ((a - 96) * 33554432 + (b - 96) * 1048576 + (c - 96) * 32768) / 1048576 % 32 = b - 96; omega
    · subst z; show ((a - 96) * 33554432 + (b - 96) * 1048576 + (c - 96) * 32768) / 32768 % 32 = c - 96; omega
    · subst z; show ((a - 96) * 33554432 + (b - 96) * 1048576 + (c - 96) * 32768) / 1024 % 32 = 0; omega
    · subst z; show ((a - 96) * 33554432 + (b - 96) * 1048576 + (c - 96) * 32768) / 32 % 32 = 0; omega
    · subst z; show ((a - 96) * 33554432 + (b - 96) * 1048576 + (c - 96) * 32768) / 1 % 32 = 0; omega
  · have ha := h.2.2 a (by simp)
    have hb := h.2.2 b (by simp)
    have hc := h.2.2 c (by simp)
    have hd := h.2.2 d (by simp)
    have ew0 : nm32 [a, b, c, d] 33554432 = ((a - 96) * 33554432 + ((b - 96) * 1048576 + ((c - 96) * 32768 + ((d - 96) * 1024 + 0)))) := rfl
    have ew : nm32 [a, b, c, d] 33554432 = (a - 96) * 33554432 + (b - 96) * 1048576 + (c - 96) * 32768 + (d - 96) * 1024 := by rw [ew0]; omega
    rw [ew]
    refine ⟨by omega, by omega, fun j hj => ?_⟩
    have : j = 0 ∨ j = 1 ∨ j = 2 ∨ j = 3 ∨ j = 4 ∨ j = 5 := by omega
    rcases this with z | z | z | z | z | z
    · subst z; show ((a - 96) * 33554432 + (b - 96) * 1048576 + (c - 96) * 32768 + (d - 96) * 1024) / 33554432 % 32 = a - 96; omega
    · subst z; show ((a - 96) * 33554432 + (b - 96) * 1048576 + (c - 96) * 32768 + (d - 96) * 1024) / 1048576 % 32 = b - 96; omega
    · subst z; show ((a - 96) * 33554432 + (b - 96) * 1048576 + (c - 96) * 32768 + (d - 96) * 1024) / 32768 % 32 = c - 96; omega
    · subst z; show ((a - 96) * 33554432 + (b - 96) * 1048576 + (c - 96) * 32768 + (d - 96) * 1024) / 1024 % 32 = d - 96; omega
    · subst z; show ((a - 96) * 33554432 + (b - 96) * 1048576 + (c - 96) * 32768 + (d - 96) * 1024) / 32 % 32 = 0; omega
    · subst z; show ((a - 96) * 33554432 + (b - 96) * 1048576 + (c - 96) * 32768 + (d - 96) * 1024) / 1 % 32 = 0; omega
  · have ha := h.2.2 a (by simp)
    have hb := h.2.2 b (by simp)
    have hc := h.2.2 c (by simp)
    have hd := h.2.2 d (by simp)
    have he := h.2.2 e (by simp)
    have ew0 : nm32 [a, b, c, d, e] 33554432 = ((a - 96) * 33554432 + ((b - 96) * 1048576 + ((c - 96) * 32768 + ((d - 96) * 1024 + ((e - 96) * 32 + 0))))) := rfl
    have ew : nm32 [a, b, c, d, e] 33554432 = (a - 96) * 33554432 + (b - 96) * 1048576 + (c - 96) * 32768 + (d - 96) * 1024 + (e - 96) * 32 := by rw [ew0]; omega
    rw [ew]
    refine ⟨by omega, by omega, fun j hj => ?_⟩
    have : j = 0 ∨ j = 1 ∨ j = 2 ∨ j = 3 ∨ j = 4 ∨ j = 5 := by omega
    rcases this with z | z | z | z | z | z
    · subst z; show ((a - 96) * 33554432 + (b - 96) * 1048576 + (c - 96) * 32768 + (d - 96) * 1024 + (e - 96) * 32) / 33554432 % 32 = a - 96; omega
    · subst z; show ((a - 96) * 33554432 + (b - 96) * 1048576 + (c - 96) * 32768 + (d - 96) * 1024 + (e - 96) * 32) / 1048576 % 32 = b - 96; omega
    · subst z; show ((a - 96) * 33554432 + (b - 96) * 1048576 + (c - 96) * 32768 + (d - 96) * 1024 + (e - 96) * 32) / 32768 % 32 = c - 96; omega
    · subst z; show ((a - 96) * 33554432 + (b - 96) * 1048576 + (c - 96) * 32768 + (d - 96) * 1024 + (e - 96) * 32) / 1024 % 32 = d - 96; omega
    · subst z; show ((a - 96) * 33554432 + (b - 96) * 1048576 + (c - 96) * 32768 + (d - 96) * 1024 + (e - 96) * 32) / 32 % 32 = e - 96; omega
    · subst z; show ((a - 96) * 33554432 + (b - 96) * 1048576 + (c - 96) * 32768 + (d - 96) * 1024 + (e - 96) * 32) / 1 % 32 = 0; omega
  · have ha := h.2.2 a (by simp)
    have hb := h.2.2 b (by simp)
    have hc := h.2.2 c (by simp)
    have hd := h.2.2 d (by simp)
    have he := h.2.2 e (by simp)
    have hf := h.2.2 f (by simp)
    have ew0 : nm32 [a, b, c, d, e, f] 33554432 = ((a - 96) * 33554432 + ((b - 96) * 1048576 + ((c - 96) * 32768 + ((d - 96) * 1024 + ((e - 96) * 32 + ((f - 96) * 1 + 0)))))) := rfl
    have ew : nm32 [a, b, c, d, e, f] 33554432 = (a - 96) * 33554432 + (b - 96) * 1048576 + (c - 96) * 32768 + (d - 96) * 1024 + (e - 96) * 32 + (f - 96) * 1 := by rw [ew0]; omega
    rw [ew]
    refine ⟨by omega, by omega, fun j hj => ?_⟩
    have : j = 0 ∨ j = 1 ∨ j = 2 ∨ j = 3 ∨ j = 4 ∨ j = 5 := by omega
    rcases this with z | z | z | z | z | z
    · subst z; show ((a - 96) * 33554432 + (b - 96) * 1048576 + (c - 96) * 32768 + (d - 96) * 1024 + (e - 96) * 32 + (f - 96) * 1) / 33554432 % 32 = a - 96; omega
    · subst z; show ((a - 96) * 33554432 + (b - 96) * 1048576 + (c - 96) * 32768 + (d - 96) * 1024 + (e - 96) * 32 + (f - 96) * 1) / 1048576 % 32 = b - 96; omega
    · subst z; show ((a - 96) * 33554432 + (b - 96) * 1048576 + (c - 96) * 32768 + (d - 96) * 1024 + (e - 96) * 32 + (f - 96) * 1) / 32768 % 32 = c - 96; omega
    · subst z; show ((a - 96) * 33554432 + (b - 96) * 1048576 + (c - 96) * 32768 + (d - 96) * 1024 + (e - 96) * 32 + (f - 96) * 1) / 1024 % 32 = d - 96; omega
    · subst z; show ((a - 96) * 33554432 + (b - 96) * 1048576 + (c - 96) * 32768 + (d - 96) * 1024 + (e - 96) * 32 + (f - 96) * 1) / 32 % 32 = e - 96; omega
    · subst z; show ((a - 96) * 33554432 + (b - 96) * 1048576 + (c - 96) * 32768 + (d - 96) * 1024 + (e - 96) * 32 + (f - 96) * 1) / 1 % 32 = f - 96; omega
  · have := h.2.1; simp only [List.length_cons] at this; omega
theorem let_L {V : ASt} {j w : Int} : ∀ (m y : Nat), y < 256 ^ m → (0 < m → 256 ^ (m - 1) ≤ y) → y < 9223372036854775808 → ∀ (k : Nat) (c : Int), 0 ≤ c → c + m ≤ 100 → b_M_letter_L41 S0 142 j w (k + m + 1) V c (y : Int) = b_M_letter_L41 S0 142 j w (k + 1) V (c + m) 0 := by
  intro m
  induction m with
  | zero =>
    intro y h1 h2 h3 k c c0 c1
    have : y = 0 := by
      rw [Nat.pow_zero] at h1
      omega
    subst this
    rw [show c + ((0 : Nat) : Int) = c by omega]; rfl
  | succ m ih =>
    intro y h1 h2 h3 k c c0 c1
    have h2' := h2 (by omega)
    rw [show m + 1 - 1 = m by omega] at h2'
    have hp : 0 < 256 ^ m := Nat.pow_pos (by decide)
    have e8 : ushr64 (y : Int) 8 = ((y / 256 : Nat) : Int) := ushr64_n (n := y) (k := 8) h3 (by decide)
    rw [show k + (m + 1) + 1 = (k + m + 1) + 1 by omega, b_M_letter_L41, if_neg (fun z => by rw [cmp_0] at z; omega), w32_id (x := c + 1) (by omega) (by omega), e8]
    rw [ih (y / 256) (Nat.div_lt_of_lt_mul (by rw [Nat.mul_comm, ← Nat.pow_succ]; exact h1)) (fun hm => ?_) (by omega) k (c + 1) (by omega) (by omega)]
    · rw [show c + 1 + (m : Int) = c + ((m + 1 : Nat) : Int) by omega]
    · rw [Nat.le_div_iff_mul_le (by decide), ← Nat.pow_succ, show (m - 1).succ = m by omega]
      exact h2'
def sLetter (x : ST) (k j : Int) : Int := if 0 ≤ k ∧ k < qP (xG x) then qL (xG x) k j else -1
theorem R_letter {x : ST} {V : ASt} (hG : GOK (xG x)) (h : rI x V) (k j : Int) : f_M_letter S0 V 142 k j = some (sLetter x k j, V) := by
  have hP := hG.2.1
  obtain ⟨b, g1, g2, g3, -⟩ := h
  have hb := g1.2.1
  unfold f_M_letter sLetter
  rw [gd_t O_142, g1.1, F_142_14, A_145, gd_in (by omega) (by omega), g1.2.2.2.1, w32_id (x := qP (xG x) - 1) (by omega) (by omega)]
  have ei : f_M_is S0 V k 0 (qP (xG x) - 1) = some (if 0 ≤ k ∧ k < qP (xG x) then 1 else 0, V) := by
    unfold f_M_is
    by_cases z : k < 0
    · rw [if_pos z, if_neg (by omega)]
    · rw [if_neg z]
      by_cases z2 : qP (xG x) - 1 < k
      · rw [if_pos z2, if_neg (by omega)]
      · rw [if_neg z2, if_pos (by omega)]
  rw [bnd_s ei]
  by_cases z : 0 ≤ k ∧ k < qP (xG x)
  · rw [if_pos z, if_pos z, if_neg (by decide)]
    obtain ⟨ls, l1, l2, l3⟩ := g3 k z.1 z.2
    obtain ⟨N, n1, n2, n3, n4⟩ := nm_ok l1
    rw [g1.1, w32_id (x := 2 * b) (by omega) (by omega), w32_id (x := 2 * b + k) (by omega) (by omega), F_142_15, A_146, gd_in (by omega) (by omega), l3, n1]
    have hlen := l1.2.1
    have hlen0 := l1.1
    have hN : N < 281474976710656 := Nat.lt_of_lt_of_le n2 (Nat.pow_le_pow_right (by decide) hlen)
    rw [show FU = (99999 - ls.length) + ls.length + 1 by rw [FU_v]; omega, let_L ls.length N n2 (fun _ => n3) (by omega) _ 0 (by omega) (by omega), b_M_letter_L41, if_pos (by rw [cmp_0]), l2 j]
    by_cases y : 0 ≤ j ∧ j < ls.length
    · rw [if_neg (show ¬ (j < 0) by omega), if_pos (show j < 0 + (ls.length : Int) by omega), if_pos y]
      have es : w32 (8 * w32 (w32 (0 + (ls.length : Int) - 1) - j)) = ((8 * (ls.length - 1 - j.toNat) : Nat) : Int) := by
        rw [w32_id (x := 0 + (ls.length : Int) - 1) (by omega) (by omega), w32_id (x := 0 + (ls.length : Int) - 1 - j) (by omega) (by omega), w32_id (by omega) (by omega)]
        omega
      have hd := n4 j.toNat (by omega)
      have hlt : N / 2 ^ (8 * (ls.length - 1 - j.toNat)) < 9223372036854775808 := Nat.lt_of_le_of_lt (Nat.div_le_self _ _) (by omega)
      rw [es, ushr64_n (by omega) (by omega), and64_255 hlt, w32_id (by omega) (by omega), hd]
    · rw [if_neg y]
      by_cases y2 : j < 0
      · rw [if_pos y2]
      · rw [if_neg y2, if_neg (by omega)]
  · rw [if_neg z, if_neg z, if_pos rfl]
theorem D_letter {x : ST} {t : Int} {V : ASt} (hG : GOK (xG x)) (h : dIt x t V) (k j : Int) : f_SG_letter S0 V 0 k j = some (sLetter x k j, V) := by
  have hP := hG.2.1
  obtain ⟨h0, h1, h2, h3, -⟩ := h
  unfold f_SG_letter sLetter f_Game_letterOf
  rw [gd_t O_0, h1.1, gd_t (OG h0), gd_t (OG h0), h2.1.2.1]
  by_cases z : 0 ≤ k ∧ k < qP (xG x)
  · rw [if_neg (show ¬ (k < 0) by omega), if_neg (show ¬ (qP (xG x) ≤ k) by omega), if_pos z, FG_6 h0, AG5 h0, gd_in (by omega) (by omega)]
    obtain ⟨ls, l1, l2, l3⟩ := h3 k z.1 z.2
    obtain ⟨n1, n2, n3⟩ := nm_ok2 l1
    have hlen := l1.2.1
    rw [l3, l2 j]
    unfold f_Tokens_letterOf b_Tokens_letterOf_J24
    by_cases y : 0 ≤ j ∧ j < 6
    · have es : w32 (5 * w32 (5 - j)) = ((5 * (5 - j.toNat) : Nat) : Int) := by
        rw [w32_id (x := 5 - j) (by omega) (by omega), w32_id (by omega) (by omega)]
        omega
      rw [if_neg (show ¬ (j < 0) by omega), if_neg (show ¬ (6 ≤ j) by omega), es, shr32_e _ ⟨by omega, by omega⟩ _ (by omega), and32_31, n3 j.toNat (by omega)]
      by_cases y2 : j < ls.length
      · have hc : 97 ≤ ls.getD j.toNat 0 ∧ ls.getD j.toNat 0 ≤ 122 := by
          have e : ls.getD j.toNat 0 = ls[j.toNat]'(by omega) := by
            rw [List.getD_eq_getElem?_getD, List.getElem?_eq_getElem (by omega)]; rfl
          rw [e]
          exact l1.2.2 _ (List.getElem_mem _)
        rw [if_pos (show j.toNat < ls.length by omega), if_neg (by omega), if_pos (show 0 ≤ j ∧ j < ls.length by omega), w32_id (x := ls.getD j.toNat 0 - 96 + 97) (by omega) (by omega), w32_id (by omega) (by omega), bnd_e, bnd_e]
        refine congrArg (fun y => some (y, V)) ?_
        omega
      · rw [if_neg (show ¬ (j.toNat < ls.length) by omega), if_pos rfl, if_neg (by omega), bnd_e, bnd_e]
    · rw [if_neg (show ¬ (0 ≤ j ∧ j < ls.length) by omega), if_pos (show (0 : Int) = 0 from rfl)]
      by_cases y2 : j < 0
      · rw [if_pos y2, bnd_e, bnd_e]
      · rw [if_neg y2, if_pos (by omega), bnd_e, bnd_e]
  · rw [if_neg z]
    by_cases y : k < 0
    · rw [if_pos y, bnd_e]
    · rw [if_neg y, if_pos (by omega), bnd_e]
