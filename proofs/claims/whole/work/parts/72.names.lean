/-! words of five bits a letter; names are told apart by both words -/
theorem nm32_f : ∀ {l : List Int}, (∀ c, c ∈ l → 97 ≤ c ∧ c ≤ 122) → l.length ≤ 6 → ∃ q : Nat, nm32 l 33554432 = ((2 ^ (5 * (6 - l.length)) * q : Nat) : Int) ∧ 0 ≤ nm32 l 33554432 ∧ nm32 l 33554432 < 1073741824 := by
  intro l h hlen
  rcases l with _ | ⟨a, _ | ⟨b, _ | ⟨c, _ | ⟨d, _ | ⟨e, _ | ⟨f, _ | ⟨g, l⟩⟩⟩⟩⟩⟩⟩
  · have ew : nm32 [] 33554432 = 0 := rfl
    rw [ew]
    refine ⟨0, ?_, by omega, by omega⟩
    show _ = ((1073741824 * 0 : Nat) : Int)
    omega
  · have ka := h a (by simp)
    have ew : nm32 [a] 33554432 = ((a - 96) * 33554432 + 0) := rfl
    rw [ew]
    refine ⟨((a - 96) * 1).toNat, ?_, by omega, by omega⟩
    show _ = ((33554432 * ((a - 96) * 1).toNat : Nat) : Int)
    omega
  · have ka := h a (by simp)
    have kb := h b (by simp)
    have ew : nm32 [a, b] 33554432 = ((a - 96) * 33554432 + ((b - 96) * 1048576 + 0)) := rfl
    rw [ew]
    refine ⟨((a - 96) * 32 + (b - 96) * 1).toNat, ?_, by omega, by omega⟩
    show _ = ((1048576 * ((a - 96) * 32 + (b - 96) * 1).toNat : Nat) : Int)
    omega
  · have ka := h a (by simp)
    have kb := h b (by simp)
    have kc := h c (by simp)
    have ew : nm32 [a, b, c] 33554432 = ((a - 96) * 33554432 + ((b - 96) * 1048576 + ((c - 96) * 32768 + 0))) := rfl
    rw [ew]
    refine ⟨((a - 96) * 1024 + (b - 96) * 32 + (c - 96) * 1).toNat, ?_, by omega, by omega⟩
    show _ = ((32768 * ((a - 96) * 1024 + (b - 96) * 32 + (c - 96) * 1).toNat : Nat) : Int)
    omega
  · have ka := h a (by simp)
    have kb := h b (by simp)
    have kc := h c (by simp)
    have kd := h d (by simp)
    have ew : nm32 [a, b, c, d] 33554432 = ((a - 96) * 33554432 + ((b - 96) * 1048576 + ((c - 96) * 32768 + ((d - 96) * 1024 + 0)))) := rfl
    rw [ew]
    refine ⟨((a - 96) * 32768 + (b - 96) * 1024 + (c - 96) * 32 + (d - 96) * 1).toNat, ?_, by omega, by omega⟩
    show _ = ((1024 * ((a - 96) * 32768 + (b - 96) * 1024 + (c - 96) * 32 + (d - 96) * 1).toNat : Nat) : Int)
    omega
  · have ka := h a (by simp)
    have kb := h b (by simp)
    have kc := h c (by simp)
    have kd := h d (by simp)
    have ke := h e (by simp)
    have ew : nm32 [a, b, c, d, e] 33554432 = ((a - 96) * 33554432 + ((b - 96) * 1048576 + ((c - 96) * 32768 + ((d - 96) * 1024 + ((e - 96) * 32 + 0))))) := rfl
    rw [ew]
    refine ⟨((a - 96) * 1048576 + (b - 96) * 32768 + (c - 96) * 1024 + (d - 96) * 32 + (e - 96) * 1).toNat, ?_, by omega, by omega⟩
    show _ = ((32 * ((a - 96) * 1048576 + (b - 96) * 32768 + (c - 96) * 1024 + (d - 96) * 32 + (e - 96) * 1).toNat : Nat) : Int)
    omega
  · have ka := h a (by simp)
    have kb := h b (by simp)
    have kc := h c (by simp)
    have kd := h d (by simp)
    have ke := h e (by simp)
    have kf := h f (by simp)
    have ew : nm32 [a, b, c, d, e, f] 33554432 = ((a - 96) * 33554432 + ((b - 96) * 1048576 + ((c - 96) * 32768 + ((d - 96) * 1024 + ((e - 96) * 32 + ((f - 96) * 1 + 0)))))) := rfl
    rw [ew]
    refine ⟨((a - 96) * 33554432 + (b - 96) * 1048576 + (c - 96) * 32768 + (d - 96) * 1024 + (e - 96) * 32 + (f - 96) * 1).toNat, ?_, by omega, by omega⟩
    show _ = ((1 * ((a - 96) * 33554432 + (b - 96) * 1048576 + (c - 96) * 32768 + (d - 96) * 1024 + (e - 96) * 32 + (f - 96) * 1).toNat : Nat) : Int)
    omega
  · simp only [List.length_cons] at hlen; omega
theorem nm32_s : ∀ {l : List Int} {c : Int}, l.length ≤ 5 → nm32 (l ++ [c]) 33554432 = nm32 l 33554432 + (c - 96) * 2 ^ (5 * (5 - l.length)) := by
  intro l x hlen
  rcases l with _ | ⟨a, _ | ⟨b, _ | ⟨c, _ | ⟨d, _ | ⟨e, _ | ⟨f, l⟩⟩⟩⟩⟩⟩
  · have e1 : nm32 ([] ++ [x]) 33554432 = ((x - 96) * 33554432 + 0) := rfl
    have e2 : nm32 [] 33554432 = 0 := rfl
    rw [e1, e2]
    show _ = _ + (x - 96) * 33554432
    omega
  · have e1 : nm32 ([a] ++ [x]) 33554432 = ((a - 96) * 33554432 + ((x - 96) * 1048576 + 0)) := rfl
    have e2 : nm32 [a] 33554432 = ((a - 96) * 33554432 + 0) := rfl
    rw [e1, e2]
    show _ = _ + (x - 96) * 1048576
    omega
  · have e1 : nm32 ([a, b] ++ [x]) 33554432 = ((a - 96) * 33554432 + ((b - 96) * 1048576 + ((x - 96) * 32768 + 0))) := rfl
    have e2 : nm32 [a, b] 33554432 = ((a - 96) * 33554432 + ((b - 96) * 1048576 + 0)) := rfl
    rw [e1, e2]
    show _ = _ + (x - 96) * 32768
    omega
  · have e1 : nm32 ([a, b, c] ++ [x]) 33554432 = ((a - 96) * 33554432 + ((b - 96) * 1048576 + ((c - 96) * 32768 + ((x - 96) * 1024 + 0)))) := rfl
    have e2 : nm32 [a, b, c] 33554432 = ((a - 96) * 33554432 + ((b - 96) * 1048576 + ((c - 96) * 32768 + 0))) := rfl
    rw [e1, e2]
    show _ = _ + (x - 96) * 1024
    omega
  · have e1 : nm32 ([a, b, c, d] ++ [x]) 33554432 = ((a - 96) * 33554432 + ((b - 96) * 1048576 + ((c - 96) * 32768 + ((d - 96) * 1024 + ((x - 96) * 32 + 0))))) := rfl
    have e2 : nm32 [a, b, c, d] 33554432 = ((a - 96) * 33554432 + ((b - 96) * 1048576 + ((c - 96) * 32768 + ((d - 96) * 1024 + 0)))) := rfl
    rw [e1, e2]
    show _ = _ + (x - 96) * 32
    omega
  · have e1 : nm32 ([a, b, c, d, e] ++ [x]) 33554432 = ((a - 96) * 33554432 + ((b - 96) * 1048576 + ((c - 96) * 32768 + ((d - 96) * 1024 + ((e - 96) * 32 + ((x - 96) * 1 + 0)))))) := rfl
    have e2 : nm32 [a, b, c, d, e] 33554432 = ((a - 96) * 33554432 + ((b - 96) * 1048576 + ((c - 96) * 32768 + ((d - 96) * 1024 + ((e - 96) * 32 + 0))))) := rfl
    rw [e1, e2]
    show _ = _ + (x - 96) * 1
    omega
  · simp only [List.length_cons] at hlen; omega
theorem nm32_i : ∀ {l r : List Int}, nmL l → nmL r → nm32 l 33554432 = nm32 r 33554432 → l = r := by
  intro l r hl hr heq
  rcases l with _ | ⟨a, _ | ⟨b, _ | ⟨c, _ | ⟨d, _ | ⟨e, _ | ⟨f, _ | ⟨g, l⟩⟩⟩⟩⟩⟩⟩
  · have := hl.1; simp only [List.length_nil] at this; omega
  · have ka := hl.2.2 a (by simp)
    have el : nm32 [a] 33554432 = ((a - 96) * 33554432 + 0) := rfl
    rw [el] at heq
    rcases r with _ | ⟨s, _ | ⟨t, _ | ⟨u, _ | ⟨v, _ | ⟨w, _ | ⟨x, _ | ⟨y, r⟩⟩⟩⟩⟩⟩⟩
    · have := hr.1; simp only [List.length_nil] at this; omega
    · have ks := hr.2.2 s (by simp)
      have er : nm32 [s] 33554432 = ((s - 96) * 33554432 + 0) := rfl
      rw [er] at heq
      have z0 : a = s := by omega
      rw [z0]
    · have ks := hr.2.2 s (by simp)
      have kt := hr.2.2 t (by simp)
      have er : nm32 [s, t] 33554432 = ((s - 96) * 33554432 + ((t - 96) * 1048576 + 0)) := rfl
      rw [er] at heq
      omega
    · have ks := hr.2.2 s (by simp)
      have kt := hr.2.2 t (by simp)
      have ku := hr.2.2 u (by simp)
      have er : nm32 [s, t, u] 33554432 = ((s - 96) * 33554432 + ((t - 96) * 1048576 + ((u - 96) * 32768 + 0))) := rfl
      rw [er] at heq
      omega
    · have ks := hr.2.2 s (by simp)
      have kt := hr.2.2 t (by simp)
      have ku := hr.2.2 u (by simp)
      have kv := hr.2.2 v (by simp)
      have er : nm32 [s, t, u, v] 33554432 = ((s - 96) * 33554432 + ((t - 96) * 1048576 + ((u - 96) * 32768 + ((v - 96) * 1024 + 0)))) := rfl
      rw [er] at heq
      omega
    · have ks := hr.2.2 s (by simp)
      have kt := hr.2.2 t (by simp)
      have ku := hr.2.2 u (by simp)
      have kv := hr.2.2 v (by simp)
      have kw := hr.2.2 w (by simp)
      have er : nm32 [s, t, u, v, w] 33554432 = ((s - 96) * 33554432 + ((t - 96) * 1048576 + ((u - 96) * 32768 + ((v - 96) * 1024 + ((w - 96) * 32 + 0))))) := rfl
      rw [er] at heq
      omega
    · have ks := hr.2.2 s (by simp)
      have kt := hr.2.2 t (by simp)
      have ku := hr.2.2 u (by simp)
      have kv := hr.2.2 v (by simp)
      have kw := hr.2.2 w (by simp)
      have kx := hr.2.2 x (by simp)
      have er : nm32 [s, t, u, v, w, x] 33554432 = ((s - 96) * 33554432 + ((t - 96) * 1048576 + ((u - 96) * 32768 + ((v - 96) * 1024 + ((w - 96) * 32 + ((x - 96) * 1 + 0)))))) := rfl
      rw [er] at heq
      omega
    · have := hr.2.1; simp only [List.length_cons] at this; omega
  · have ka := hl.2.2 a (by simp)
    have kb := hl.2.2 b (by simp)
    have el : nm32 [a, b] 33554432 = ((a - 96) * 33554432 + ((b - 96) * 1048576 + 0)) := rfl
    rw [el] at heq
    rcases r with _ | ⟨s, _ | ⟨t, _ | ⟨u, _ | ⟨v, _ | ⟨w, _ | ⟨x, _ | ⟨y, r⟩⟩⟩⟩⟩⟩⟩
    · have := hr.1; simp only [List.length_nil] at this; omega
    · have ks := hr.2.2 s (by simp)
      have er : nm32 [s] 33554432 = ((s - 96) * 33554432 + 0) := rfl
      rw [er] at heq
      omega
    · have ks := hr.2.2 s (by simp)
      have kt := hr.2.2 t (by simp)
      have er : nm32 [s, t] 33554432 = ((s - 96) * 33554432 + ((t - 96) * 1048576 + 0)) := rfl
      rw [er] at heq
      have z0 : a = s := by omega
      have z1 : b = t := by omega
      rw [z0, z1]
    · have ks := hr.2.2 s (by simp)
      have kt := hr.2.2 t (by simp)
      have ku := hr.2.2 u (by simp)
      have er : nm32 [s, t, u] 33554432 = ((s - 96) * 33554432 + ((t - 96) * 1048576 + ((u - 96) * 32768 + 0))) := rfl
      rw [er] at heq
      omega
    · have ks := hr.2.2 s (by simp)
      have kt := hr.2.2 t (by simp)
      have ku := hr.2.2 u (by simp)
      have kv := hr.2.2 v (by simp)
      have er : nm32 [s, t, u, v] 33554432 = ((s - 96) * 33554432 + ((t - 96) * 1048576 + ((u - 96) * 32768 + ((v - 96) * 1024 + 0)))) := rfl
      rw [er] at heq
      omega
    · have ks := hr.2.2 s (by simp)
      have kt := hr.2.2 t (by simp)
      have ku := hr.2.2 u (by simp)
      have kv := hr.2.2 v (by simp)
      have kw := hr.2.2 w (by simp)
      have er : nm32 [s, t, u, v, w] 33554432 = ((s - 96) * 33554432 + ((t - 96) * 1048576 + ((u - 96) * 32768 + ((v - 96) * 1024 + ((w - 96) * 32 + 0))))) := rfl
      rw [er] at heq
      omega
    · have ks := hr.2.2 s (by simp)
      have kt := hr.2.2 t (by simp)
      have ku := hr.2.2 u (by simp)
      have kv := hr.2.2 v (by simp)
      have kw := hr.2.2 w (by simp)
      have kx := hr.2.2 x (by simp)
      have er : nm32 [s, t, u, v, w, x] 33554432 = ((s - 96) * 33554432 + ((t - 96) * 1048576 + ((u - 96) * 32768 + ((v - 96) * 1024 + ((w - 96) * 32 + ((x - 96) * 1 + 0)))))) := rfl
      rw [er] at heq
      omega
    · have := hr.2.1; simp only [List.length_cons] at this; omega
  · have ka := hl.2.2 a (by simp)
    have kb := hl.2.2 b (by simp)
    have kc := hl.2.2 c (by simp)
    have el : nm32 [a, b, c] 33554432 = ((a - 96) * 33554432 + ((b - 96) * 1048576 + ((c - 96) * 32768 + 0))) := rfl
    rw [el] at heq
    rcases r with _ | ⟨s, _ | ⟨t, _ | ⟨u, _ | ⟨v, _ | ⟨w, _ | ⟨x, _ | ⟨y, r⟩⟩⟩⟩⟩⟩⟩
    · have := hr.1; simp only [List.length_nil] at this; omega
    · have ks := hr.2.2 s (by simp)
      have er : nm32 [s] 33554432 = ((s - 96) * 33554432 + 0) := rfl
      rw [er] at heq
      omega
    · have ks := hr.2.2 s (by simp)
      have kt := hr.2.2 t (by simp)
      have er : nm32 [s, t] 33554432 = ((s - 96) * 33554432 + ((t - 96) * 1048576 + 0)) := rfl
      rw [er] at heq
      omega
    · have ks := hr.2.2 s (by simp)
      have kt := hr.2.2 t (by simp)
      have ku := hr.2.2 u (by simp)
      have er : nm32 [s, t, u] 33554432 = ((s - 96) * 33554432 + ((t - 96) * 1048576 + ((u - 96) * 32768 + 0))) := rfl
      rw [er] at heq
      have z0 : a = s := by omega
      have z1 : b = t := by omega
      have z2 : c = u := by omega
      rw [z0, z1, z2]
    · have ks := hr.2.2 s (by simp)
      have kt := hr.2.2 t (by simp)
      have ku := hr.2.2 u (by simp)
      have kv := hr.2.2 v (by simp)
      have er : nm32 [s, t, u, v] 33554432 = ((s - 96) * 33554432 + ((t - 96) * 1048576 + ((u - 96) * 32768 + ((v - 96) * 1024 + 0)))) := rfl
      rw [er] at heq
      omega
    · have ks := hr.2.2 s (by simp)
      have kt := hr.2.2 t (by simp)
      have ku := hr.2.2 u (by simp)
      have kv := hr.2.2 v (by simp)
      have kw := hr.2.2 w (by simp)
      have er : nm32 [s, t, u, v, w] 33554432 = ((s - 96) * 33554432 + ((t - 96) * 1048576 + ((u - 96) * 32768 + ((v - 96) * 1024 + ((w - 96) * 32 + 0))))) := rfl
      rw [er] at heq
      omega
    · have ks := hr.2.2 s (by simp)
      have kt := hr.2.2 t (by simp)
      have ku := hr.2.2 u (by simp)
      have kv := hr.2.2 v (by simp)
      have kw := hr.2.2 w (by simp)
      have kx := hr.2.2 x (by simp)
      have er : nm32 [s, t, u, v, w, x] 33554432 = ((s - 96) * 33554432 + ((t - 96) * 1048576 + ((u - 96) * 32768 + ((v - 96) * 1024 + ((w - 96) * 32 + ((x - 96) * 1 + 0)))))) := rfl
      rw [er] at heq
      omega
    · have := hr.2.1; simp only [List.length_cons] at this; omega
  · have ka := hl.2.2 a (by simp)
    have kb := hl.2.2 b (by simp)
    have kc := hl.2.2 c (by simp)
    have kd := hl.2.2 d (by simp)
    have el : nm32 [a, b, c, d] 33554432 = ((a - 96) * 33554432 + ((b - 96) * 1048576 + ((c - 96) * 32768 + ((d - 96) * 1024 + 0)))) := rfl
    rw [el] at heq
    rcases r with _ | ⟨s, _ | ⟨t, _ | ⟨u, _ | ⟨v, _ | ⟨w, _ | ⟨x, _ | ⟨y, r⟩⟩⟩⟩⟩⟩⟩
    · have := hr.1; simp only [List.length_nil] at this; omega
    · have ks := hr.2.2 s (by simp)
      have er : nm32 [s] 33554432 = ((s - 96) * 33554432 + 0) := rfl
      rw [er] at heq
      omega
    · have ks := hr.2.2 s (by simp)
      have kt := hr.2.2 t (by simp)
      have er : nm32 [s, t] 33554432 = ((s - 96) * 33554432 + ((t - 96) * 1048576 + 0)) := rfl
      rw [er] at heq
      omega
    · have ks := hr.2.2 s (by simp)
      have kt := hr.2.2 t (by simp)
      have ku := hr.2.2 u (by simp)
      have er : nm32 [s, t, u] 33554432 = ((s - 96) * 33554432 + ((t - 96) * 1048576 + ((u - 96) * 32768 + 0))) := rfl
      rw [er] at heq
      omega
    · have ks := hr.2.2 s (by simp)
      have kt := hr.2.2 t (by simp)
      have ku := hr.2.2 u (by simp)
      have kv := hr.2.2 v (by simp)
      have er : nm32 [s, t, u, v] 33554432 = ((s - 96) * 33554432 + ((t - 96) * 1048576 + ((u - 96) * 32768 + ((v - 96) * 1024 + 0)))) := rfl
      rw [er] at heq
      have z0 : a = s := by omega
      have z1 : b = t := by omega
      have z2 : c = u := by omega
      have z3 : d = v := by omega
      rw [z0, z1, z2, z3]
    · have ks := hr.2.2 s (by simp)
      have kt := hr.2.2 t (by simp)
      have ku := hr.2.2 u (by simp)
      have kv := hr.2.2 v (by simp)
      have kw := hr.2.2 w (by simp)
      have er : nm32 [s, t, u, v, w] 33554432 = ((s - 96) * 33554432 + ((t - 96) * 1048576 + ((u - 96) * 32768 + ((v - 96) * 1024 + ((w - 96) * 32 + 0))))) := rfl
      rw [er] at heq
      omega
    · have ks := hr.2.2 s (by simp)
      have kt := hr.2.2 t (by simp)
      have ku := hr.2.2 u (by simp)
      have kv := hr.2.2 v (by simp)
      have kw := hr.2.2 w (by simp)
      have kx := hr.2.2 x (by simp)
      have er : nm32 [s, t, u, v, w, x] 33554432 = ((s - 96) * 33554432 + ((t - 96) * 1048576 + ((u - 96) * 32768 + ((v - 96) * 1024 + ((w - 96) * 32 + ((x - 96) * 1 + 0)))))) := rfl
      rw [er] at heq
      omega
    · have := hr.2.1; simp only [List.length_cons] at this; omega
  · have ka := hl.2.2 a (by simp)
    have kb := hl.2.2 b (by simp)
    have kc := hl.2.2 c (by simp)
    have kd := hl.2.2 d (by simp)
    have ke := hl.2.2 e (by simp)
    have el : nm32 [a, b, c, d, e] 33554432 = ((a - 96) * 33554432 + ((b - 96) * 1048576 + ((c - 96) * 32768 + ((d - 96) * 1024 + ((e - 96) * 32 + 0))))) := rfl
    rw [el] at heq
    rcases r with _ | ⟨s, _ | ⟨t, _ | ⟨u, _ | ⟨v, _ | ⟨w, _ | ⟨x, _ | ⟨y, r⟩⟩⟩⟩⟩⟩⟩
    · have := hr.1; simp only [List.length_nil] at this; omega
    · have ks := hr.2.2 s (by simp)
      have er : nm32 [s] 33554432 = ((s - 96) * 33554432 + 0) := rfl
      rw [er] at heq
      omega
    · have ks := hr.2.2 s (by simp)
      have kt := hr.2.2 t (by simp)
      have er : nm32 [s, t] 33554432 = ((s - 96) * 33554432 + ((t - 96) * 1048576 + 0)) := rfl
      rw [er] at heq
      omega
    · have ks := hr.2.2 s (by simp)
      have kt := hr.2.2 t (by simp)
      have ku := hr.2.2 u (by simp)
      have er : nm32 [s, t, u] 33554432 = ((s - 96) * 33554432 + ((t - 96) * 1048576 + ((u - 96) * 32768 + 0))) := rfl
      rw [er] at heq
      omega
    · have ks := hr.2.2 s (by simp)
      have kt := hr.2.2 t (by simp)
      have ku := hr.2.2 u (by simp)
      have kv := hr.2.2 v (by simp)
      have er : nm32 [s, t, u, v] 33554432 = ((s - 96) * 33554432 + ((t - 96) * 1048576 + ((u - 96) * 32768 + ((v - 96) * 1024 + 0)))) := rfl
      rw [er] at heq
      omega
    · have ks := hr.2.2 s (by simp)
      have kt := hr.2.2 t (by simp)
      have ku := hr.2.2 u (by simp)
      have kv := hr.2.2 v (by simp)
      have kw := hr.2.2 w (by simp)
      have er : nm32 [s, t, u, v, w] 33554432 = ((s - 96) * 33554432 + ((t - 96) * 1048576 + ((u - 96) * 32768 + ((v - 96) * 1024 + ((w - 96) * 32 + 0))))) := rfl
      rw [er] at heq
      have z0 : a = s := by omega
      have z1 : b = t := by omega
      have z2 : c = u := by omega
      have z3 : d = v := by omega
      have z4 : e = w := by omega
      rw [z0, z1, z2, z3, z4]
    · have ks := hr.2.2 s (by simp)
      have kt := hr.2.2 t (by simp)
      have ku := hr.2.2 u (by simp)
      have kv := hr.2.2 v (by simp)
      have kw := hr.2.2 w (by simp)
      have kx := hr.2.2 x (by simp)
      have er : nm32 [s, t, u, v, w, x] 33554432 = ((s - 96) * 33554432 + ((t - 96) * 1048576 + ((u - 96) * 32768 + ((v - 96) * 1024 + ((w - 96) * 32 + ((x - 96) * 1 + 0)))))) := rfl
      rw [er] at heq
      omega
    · have := hr.2.1; simp only [List.length_cons] at this; omega
  · have ka := hl.2.2 a (by simp)
    have kb := hl.2.2 b (by simp)
    have kc := hl.2.2 c (by simp)
    have kd := hl.2.2 d (by simp)
    have ke := hl.2.2 e (by simp)
    have kf := hl.2.2 f (by simp)
    have el : nm32 [a, b, c, d, e, f] 33554432 = ((a - 96) * 33554432 + ((b - 96) * 1048576 + ((c - 96) * 32768 + ((d - 96) * 1024 + ((e - 96) * 32 + ((f - 96) * 1 + 0)))))) := rfl
    rw [el] at heq
    rcases r with _ | ⟨s, _ | ⟨t, _ | ⟨u, _ | ⟨v, _ | ⟨w, _ | ⟨x, _ | ⟨y, r⟩⟩⟩⟩⟩⟩⟩
    · have := hr.1; simp only [List.length_nil] at this; omega
    · have ks := hr.2.2 s (by simp)
      have er : nm32 [s] 33554432 = ((s - 96) * 33554432 + 0) := rfl
      rw [er] at heq
      omega
    · have ks := hr.2.2 s (by simp)
      have kt := hr.2.2 t (by simp)
      have er : nm32 [s, t] 33554432 = ((s - 96) * 33554432 + ((t - 96) * 1048576 + 0)) := rfl
      rw [er] at heq
      omega
    · have ks := hr.2.2 s (by simp)
      have kt := hr.2.2 t (by simp)
      have ku := hr.2.2 u (by simp)
      have er : nm32 [s, t, u] 33554432 = ((s - 96) * 33554432 + ((t - 96) * 1048576 + ((u - 96) * 32768 + 0))) := rfl
      rw [er] at heq
      omega
    · have ks := hr.2.2 s (by simp)
      have kt := hr.2.2 t (by simp)
      have ku := hr.2.2 u (by simp)
      have kv := hr.2.2 v (by simp)
      have er : nm32 [s, t, u, v] 33554432 = ((s - 96) * 33554432 + ((t - 96) * 1048576 + ((u - 96) * 32768 + ((v - 96) * 1024 + 0)))) := rfl
      rw [er] at heq
      omega
    · have ks := hr.2.2 s (by simp)
      have kt := hr.2.2 t (by simp)
      have ku := hr.2.2 u (by simp)
      have kv := hr.2.2 v (by simp)
      have kw := hr.2.2 w (by simp)
      have er : nm32 [s, t, u, v, w] 33554432 = ((s - 96) * 33554432 + ((t - 96) * 1048576 + ((u - 96) * 32768 + ((v - 96) * 1024 + ((w - 96) * 32 + 0))))) := rfl
      rw [er] at heq
      omega
    · have ks := hr.2.2 s (by simp)
      have kt := hr.2.2 t (by simp)
      have ku := hr.2.2 u (by simp)
      have kv := hr.2.2 v (by simp)
      have kw := hr.2.2 w (by simp)
      have kx := hr.2.2 x (by simp)
      have er : nm32 [s, t, u, v, w, x] 33554432 = ((s - 96) * 33554432 + ((t - 96) * 1048576 + ((u - 96) * 32768 + ((v - 96) * 1024 + ((w - 96) * 32 + ((x - 96) * 1 + 0)))))) := rfl
      rw [er] at heq
      have z0 : a = s := by omega
      have z1 : b = t := by omega
      have z2 : c = u := by omega
      have z3 : d = v := by omega
      have z4 : e = w := by omega
      have z5 : f = x := by omega
      rw [z0, z1, z2, z3, z4, z5]
    · have := hr.2.1; simp only [List.length_cons] at this; omega
  · have := hl.2.1; simp only [List.length_cons] at this; omega
theorem nm256_i : ∀ {l r : List Int}, nmL l → nmL r → nm256 l 0 = nm256 r 0 → l = r := by
  intro l r hl hr heq
  rcases l with _ | ⟨a, _ | ⟨b, _ | ⟨c, _ | ⟨d, _ | ⟨e, _ | ⟨f, _ | ⟨g, l⟩⟩⟩⟩⟩⟩⟩
  · have := hl.1; simp only [List.length_nil] at this; omega
  · have ka := hl.2.2 a (by simp)
    have el : nm256 [a] 0 = (256 * 0 + a) := rfl
    rw [el] at heq
    rcases r with _ | ⟨s, _ | ⟨t, _ | ⟨u, _ | ⟨v, _ | ⟨w, _ | ⟨x, _ | ⟨y, r⟩⟩⟩⟩⟩⟩⟩
    · have := hr.1; simp only [List.length_nil] at this; omega
    · have ks := hr.2.2 s (by simp)
      have er : nm256 [s] 0 = (256 * 0 + s) := rfl
      rw [er] at heq
      have z0 : a = s := by omega
      rw [z0]
    · have ks := hr.2.2 s (by simp)
      have kt := hr.2.2 t (by simp)
      have er : nm256 [s, t] 0 = (256 * (256 * 0 + s) + t) := rfl
      rw [er] at heq
      omega
    · have ks := hr.2.2 s (by simp)
      have kt := hr.2.2 t (by simp)
      have ku := hr.2.2 u (by simp)
      have er : nm256 [s, t, u] 0 = (256 * (256 * (256 * 0 + s) + t) + u) := rfl
      rw [er] at heq
      omega
    · have ks := hr.2.2 s (by simp)
      have kt := hr.2.2 t (by simp)
      have ku := hr.2.2 u (by simp)
      have kv := hr.2.2 v (by simp)
      have er : nm256 [s, t, u, v] 0 = (256 * (256 * (256 * (256 * 0 + s) + t) + u) + v) := rfl
      rw [er] at heq
      omega
    · have ks := hr.2.2 s (by simp)
      have kt := hr.2.2 t (by simp)
      have ku := hr.2.2 u (by simp)
      have kv := hr.2.2 v (by simp)
      have kw := hr.2.2 w (by simp)
      have er : nm256 [s, t, u, v, w] 0 = (256 * (256 * (256 * (256 * (256 * 0 + s) + t) + u) + v) + w) := rfl
      rw [er] at heq
      omega
    · have ks := hr.2.2 s (by simp)
      have kt := hr.2.2 t (by simp)
      have ku := hr.2.2 u (by simp)
      have kv := hr.2.2 v (by simp)
      have kw := hr.2.2 w (by simp)
      have kx := hr.2.2 x (by simp)
      have er : nm256 [s, t, u, v, w, x] 0 = (256 * (256 * (256 * (256 * (256 * (256 * 0 + s) + t) + u) + v) + w) + x) := rfl
      rw [er] at heq
      omega
    · have := hr.2.1; simp only [List.length_cons] at this; omega
  · have ka := hl.2.2 a (by simp)
    have kb := hl.2.2 b (by simp)
    have el : nm256 [a, b] 0 = (256 * (256 * 0 + a) + b) := rfl
    rw [el] at heq
    rcases r with _ | ⟨s, _ | ⟨t, _ | ⟨u, _ | ⟨v, _ | ⟨w, _ | ⟨x, _ | ⟨y, r⟩⟩⟩⟩⟩⟩⟩
    · have := hr.1; simp only [List.length_nil] at this; omega
    · have ks := hr.2.2 s (by simp)
      have er : nm256 [s] 0 = (256 * 0 + s) := rfl
      rw [er] at heq
      omega
    · have ks := hr.2.2 s (by simp)
      have kt := hr.2.2 t (by simp)
      have er : nm256 [s, t] 0 = (256 * (256 * 0 + s) + t) := rfl
      rw [er] at heq
      have z0 : a = s := by omega
      have z1 : b = t := by omega
      rw [z0, z1]
    · have ks := hr.2.2 s (by simp)
      have kt := hr.2.2 t (by simp)
      have ku := hr.2.2 u (by simp)
      have er : nm256 [s, t, u] 0 = (256 * (256 * (256 * 0 + s) + t) + u) := rfl
      rw [er] at heq
      omega
    · have ks := hr.2.2 s (by simp)
      have kt := hr.2.2 t (by simp)
      have ku := hr.2.2 u (by simp)
      have kv := hr.2.2 v (by simp)
      have er : nm256 [s, t, u, v] 0 = (256 * (256 * (256 * (256 * 0 + s) + t) + u) + v) := rfl
      rw [er] at heq
      omega
    · have ks := hr.2.2 s (by simp)
      have kt := hr.2.2 t (by simp)
      have ku := hr.2.2 u (by simp)
      have kv := hr.2.2 v (by simp)
      have kw := hr.2.2 w (by simp)
      have er : nm256 [s, t, u, v, w] 0 = (256 * (256 * (256 * (256 * (256 * 0 + s) + t) + u) + v) + w) := rfl
      rw [er] at heq
      omega
    · have ks := hr.2.2 s (by simp)
      have kt := hr.2.2 t (by simp)
      have ku := hr.2.2 u (by simp)
      have kv := hr.2.2 v (by simp)
      have kw := hr.2.2 w (by simp)
      have kx := hr.2.2 x (by simp)
      have er : nm256 [s, t, u, v, w, x] 0 = (256 * (256 * (256 * (256 * (256 * (256 * 0 + s) + t) + u) + v) + w) + x) := rfl
      rw [er] at heq
      omega
    · have := hr.2.1; simp only [List.length_cons] at this; omega
  · have ka := hl.2.2 a (by simp)
    have kb := hl.2.2 b (by simp)
    have kc := hl.2.2 c (by simp)
    have el : nm256 [a, b, c] 0 = (256 * (256 * (256 * 0 + a) + b) + c) := rfl
    rw [el] at heq
    rcases r with _ | ⟨s, _ | ⟨t, _ | ⟨u, _ | ⟨v, _ | ⟨w, _ | ⟨x, _ | ⟨y, r⟩⟩⟩⟩⟩⟩⟩
    · have := hr.1; simp only [List.length_nil] at this; omega
    · have ks := hr.2.2 s (by simp)
      have er : nm256 [s] 0 = (256 * 0 + s) := rfl
      rw [er] at heq
      omega
    · have ks := hr.2.2 s (by simp)
      have kt := hr.2.2 t (by simp)
      have er : nm256 [s, t] 0 = (256 * (256 * 0 + s) + t) := rfl
      rw [er] at heq
      omega
    · have ks := hr.2.2 s (by simp)
      have kt := hr.2.2 t (by simp)
      have ku := hr.2.2 u (by simp)
      have er : nm256 [s, t, u] 0 = (256 * (256 * (256 * 0 + s) + t) + u) := rfl
      rw [er] at heq
      have z0 : a = s := by omega
      have z1 : b = t := by omega
      have z2 : c = u := by omega
      rw [z0, z1, z2]
    · have ks := hr.2.2 s (by simp)
      have kt := hr.2.2 t (by simp)
      have ku := hr.2.2 u (by simp)
      have kv := hr.2.2 v (by simp)
      have er : nm256 [s, t, u, v] 0 = (256 * (256 * (256 * (256 * 0 + s) + t) + u) + v) := rfl
      rw [er] at heq
      omega
    · have ks := hr.2.2 s (by simp)
      have kt := hr.2.2 t (by simp)
      have ku := hr.2.2 u (by simp)
      have kv := hr.2.2 v (by simp)
      have kw := hr.2.2 w (by simp)
      have er : nm256 [s, t, u, v, w] 0 = (256 * (256 * (256 * (256 * (256 * 0 + s) + t) + u) + v) + w) := rfl
      rw [er] at heq
      omega
    · have ks := hr.2.2 s (by simp)
      have kt := hr.2.2 t (by simp)
      have ku := hr.2.2 u (by simp)
      have kv := hr.2.2 v (by simp)
      have kw := hr.2.2 w (by simp)
      have kx := hr.2.2 x (by simp)
      have er : nm256 [s, t, u, v, w, x] 0 = (256 * (256 * (256 * (256 * (256 * (256 * 0 + s) + t) + u) + v) + w) + x) := rfl
      rw [er] at heq
      omega
    · have := hr.2.1; simp only [List.length_cons] at this; omega
  · have ka := hl.2.2 a (by simp)
    have kb := hl.2.2 b (by simp)
    have kc := hl.2.2 c (by simp)
    have kd := hl.2.2 d (by simp)
    have el : nm256 [a, b, c, d] 0 = (256 * (256 * (256 * (256 * 0 + a) + b) + c) + d) := rfl
    rw [el] at heq
    rcases r with _ | ⟨s, _ | ⟨t, _ | ⟨u, _ | ⟨v, _ | ⟨w, _ | ⟨x, _ | ⟨y, r⟩⟩⟩⟩⟩⟩⟩
    · have := hr.1; simp only [List.length_nil] at this; omega
    · have ks := hr.2.2 s (by simp)
      have er : nm256 [s] 0 = (256 * 0 + s) := rfl
      rw [er] at heq
      omega
    · have ks := hr.2.2 s (by simp)
      have kt := hr.2.2 t (by simp)
      have er : nm256 [s, t] 0 = (256 * (256 * 0 + s) + t) := rfl
      rw [er] at heq
      omega
    · have ks := hr.2.2 s (by simp)
      have kt := hr.2.2 t (by simp)
      have ku := hr.2.2 u (by simp)
      have er : nm256 [s, t, u] 0 = (256 * (256 * (256 * 0 + s) + t) + u) := rfl
      rw [er] at heq
      omega
    · have ks := hr.2.2 s (by simp)
      have kt := hr.2.2 t (by simp)
      have ku := hr.2.2 u (by simp)
      have kv := hr.2.2 v (by simp)
      have er : nm256 [s, t, u, v] 0 = (256 * (256 * (256 * (256 * 0 + s) + t) + u) + v) := rfl
      rw [er] at heq
      have z0 : a = s := by omega
      have z1 : b = t := by omega
      have z2 : c = u := by omega
      have z3 : d = v := by omega
      rw [z0, z1, z2, z3]
    · have ks := hr.2.2 s (by simp)
      have kt := hr.2.2 t (by simp)
      have ku := hr.2.2 u (by simp)
      have kv := hr.2.2 v (by simp)
      have kw := hr.2.2 w (by simp)
      have er : nm256 [s, t, u, v, w] 0 = (256 * (256 * (256 * (256 * (256 * 0 + s) + t) + u) + v) + w) := rfl
      rw [er] at heq
      omega
    · have ks := hr.2.2 s (by simp)
      have kt := hr.2.2 t (by simp)
      have ku := hr.2.2 u (by simp)
      have kv := hr.2.2 v (by simp)
      have kw := hr.2.2 w (by simp)
      have kx := hr.2.2 x (by simp)
      have er : nm256 [s, t, u, v, w, x] 0 = (256 * (256 * (256 * (256 * (256 * (256 * 0 + s) + t) + u) + v) + w) + x) := rfl
      rw [er] at heq
      omega
    · have := hr.2.1; simp only [List.length_cons] at this; omega
  · have ka := hl.2.2 a (by simp)
    have kb := hl.2.2 b (by simp)
    have kc := hl.2.2 c (by simp)
    have kd := hl.2.2 d (by simp)
    have ke := hl.2.2 e (by simp)
    have el : nm256 [a, b, c, d, e] 0 = (256 * (256 * (256 * (256 * (256 * 0 + a) + b) + c) + d) + e) := rfl
    rw [el] at heq
    rcases r with _ | ⟨s, _ | ⟨t, _ | ⟨u, _ | ⟨v, _ | ⟨w, _ | ⟨x, _ | ⟨y, r⟩⟩⟩⟩⟩⟩⟩
    · have := hr.1; simp only [List.length_nil] at this; omega
    · have ks := hr.2.2 s (by simp)
      have er : nm256 [s] 0 = (256 * 0 + s) := rfl
      rw [er] at heq
      omega
    · have ks := hr.2.2 s (by simp)
      have kt := hr.2.2 t (by simp)
      have er : nm256 [s, t] 0 = (256 * (256 * 0 + s) + t) := rfl
      rw [er] at heq
      omega
    · have ks := hr.2.2 s (by simp)
      have kt := hr.2.2 t (by simp)
      have ku := hr.2.2 u (by simp)
      have er : nm256 [s, t, u] 0 = (256 * (256 * (256 * 0 + s) + t) + u) := rfl
      rw [er] at heq
      omega
    · have ks := hr.2.2 s (by simp)
      have kt := hr.2.2 t (by simp)
      have ku := hr.2.2 u (by simp)
      have kv := hr.2.2 v (by simp)
      have er : nm256 [s, t, u, v] 0 = (256 * (256 * (256 * (256 * 0 + s) + t) + u) + v) := rfl
      rw [er] at heq
      omega
    · have ks := hr.2.2 s (by simp)
      have kt := hr.2.2 t (by simp)
      have ku := hr.2.2 u (by simp)
      have kv := hr.2.2 v (by simp)
      have kw := hr.2.2 w (by simp)
      have er : nm256 [s, t, u, v, w] 0 = (256 * (256 * (256 * (256 * (256 * 0 + s) + t) + u) + v) + w) := rfl
      rw [er] at heq
      have z0 : a = s := by omega
      have z1 : b = t := by omega
      have z2 : c = u := by omega
      have z3 : d = v := by omega
      have z4 : e = w := by omega
      rw [z0, z1, z2, z3, z4]
    · have ks := hr.2.2 s (by simp)
      have kt := hr.2.2 t (by simp)
      have ku := hr.2.2 u (by simp)
      have kv := hr.2.2 v (by simp)
      have kw := hr.2.2 w (by simp)
      have kx := hr.2.2 x (by simp)
      have er : nm256 [s, t, u, v, w, x] 0 = (256 * (256 * (256 * (256 * (256 * (256 * 0 + s) + t) + u) + v) + w) + x) := rfl
      rw [er] at heq
      omega
    · have := hr.2.1; simp only [List.length_cons] at this; omega
  · have ka := hl.2.2 a (by simp)
    have kb := hl.2.2 b (by simp)
    have kc := hl.2.2 c (by simp)
    have kd := hl.2.2 d (by simp)
    have ke := hl.2.2 e (by simp)
    have kf := hl.2.2 f (by simp)
    have el : nm256 [a, b, c, d, e, f] 0 = (256 * (256 * (256 * (256 * (256 * (256 * 0 + a) + b) + c) + d) + e) + f) := rfl
    rw [el] at heq
    rcases r with _ | ⟨s, _ | ⟨t, _ | ⟨u, _ | ⟨v, _ | ⟨w, _ | ⟨x, _ | ⟨y, r⟩⟩⟩⟩⟩⟩⟩
    · have := hr.1; simp only [List.length_nil] at this; omega
    · have ks := hr.2.2 s (by simp)
      have er : nm256 [s] 0 = (256 * 0 + s) := rfl
      rw [er] at heq
      omega
    · have ks := hr.2.2 s (by simp)
      have kt := hr.2.2 t (by simp)
      have er : nm256 [s, t] 0 = (256 * (256 * 0 + s) + t) := rfl
      rw [er] at heq
      omega
    · have ks := hr.2.2 s (by simp)
      have kt := hr.2.2 t (by simp)
      have ku := hr.2.2 u (by simp)
      have er : nm256 [s, t, u] 0 = (256 * (256 * (256 * 0 + s) + t) + u) := rfl
      rw [er] at heq
      omega
    · have ks := hr.2.2 s (by simp)
      have kt := hr.2.2 t (by simp)
      have ku := hr.2.2 u (by simp)
      have kv := hr.2.2 v (by simp)
      have er : nm256 [s, t, u, v] 0 = (256 * (256 * (256 * (256 * 0 + s) + t) + u) + v) := rfl
      rw [er] at heq
      omega
    · have ks := hr.2.2 s (by simp)
      have kt := hr.2.2 t (by simp)
      have ku := hr.2.2 u (by simp)
      have kv := hr.2.2 v (by simp)
      have kw := hr.2.2 w (by simp)
      have er : nm256 [s, t, u, v, w] 0 = (256 * (256 * (256 * (256 * (256 * 0 + s) + t) + u) + v) + w) := rfl
      rw [er] at heq
      omega
    · have ks := hr.2.2 s (by simp)
      have kt := hr.2.2 t (by simp)
      have ku := hr.2.2 u (by simp)
      have kv := hr.2.2 v (by simp)
      have kw := hr.2.2 w (by simp)
      have kx := hr.2.2 x (by simp)
      have er : nm256 [s, t, u, v, w, x] 0 = (256 * (256 * (256 * (256 * (256 * (256 * 0 + s) + t) + u) + v) + w) + x) := rfl
      rw [er] at heq
      have z0 : a = s := by omega
      have z1 : b = t := by omega
      have z2 : c = u := by omega
      have z3 : d = v := by omega
      have z4 : e = w := by omega
      have z5 : f = x := by omega
      rw [z0, z1, z2, z3, z4, z5]
    · have := hr.2.1; simp only [List.length_cons] at this; omega
  · have := hl.2.1; simp only [List.length_cons] at this; omega
