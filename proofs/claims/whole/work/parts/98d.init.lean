/-! the state at the start -/
def icL : List (Int × Int × Int) := [(142, 12, 0), (144, 0, 0), (145, 0, 0), (149, 0, 0), (150, 0, 0), (142, 48, 0), (142, 65, 0), (142, 72, 0), (142, 59, 0), (142, 60, 0), (142, 61, -1), (142, 1, 0), (142, 10, 0), (142, 11, -1), (142, 80, 0), (173, 0, 0), (173, 1, 0), (174, 0, 0), (174, 1, 0), (166, 0, 0), (166, 1, 0), (166, 2, 0), (166, 3, 0), (166, 4, 0), (166, 5, 0), (0, 1, 3), (0, 2, 19), (0, 17, 0), (3, 0, 0), (3, 1, 0), (3, 2, 0), (3, 3, 0), (3, 4, 0), (41, 0, 0), (50, 2, 3), (59, 0, 0), (59, 1, 0), (50, 14, 0), (50, 0, 0), (62, 0, 0), (62, 11, 71), (62, 12, 72), (96, 2, 0), (102, 2, 0), (47, 0, 0), (43, 0, 0), (109, 0, 0), (109, 1, 0), (109, 2, -1), (1, 0, 0), (113, 0, 0), (35, 0, 0), (35, 1, -1), (112, 0, 0), (112, 1, 0), (111, 0, 0), (111, 1, 0), (115, 0, 0), (115, 1, 0), (115, 2, 0), (115, 3, 0), (115, 4, 0), (115, 5, 0), (108, 0, 116), (108, 1, 118), (108, 2, 120), (108, 3, 122), (108, 4, 124), (108, 5, 126), (108, 6, 128), (108, 7, 130), (108, 8, 132), (108, 9, 134), (108, 10, 136), (108, 11, 138), (108, 12, 140), (37, 0, 82888832), (37, 1, 546475168), (37, 2, 54525952), (37, 3, 509607936), (37, 4, 191023104), (37, 5, 659197280), (37, 6, 419010144), (37, 7, 153149024), (37, 8, 781667328), (37, 9, 438075392), (37, 10, 486146048), (37, 11, 721420288), (37, 12, 150714368), (37, 13, 509804544), (37, 14, 780318720), (37, 15, 522190848), (37, 16, 48365568), (37, 17, 46530560), (37, 18, 654823424), (37, 19, 250654720), (37, 20, 780632064), (37, 21, 446103552), (37, 22, 438042624), (6, 0, 0), (22, 0, 0)]
def icT (V : ASt) : Bool := icL.all (fun f => decide (V f.1 f.2.1 = f.2.2)) && (List.range 200).all (fun i => decide (V 53 (i : Int) = 0)) && (List.range 40).all (fun i => decide (V 18 (i : Int) = 0)) && (List.range 480).all (fun i => decide (V 186 (i : Int) = 0 ∧ V 187 (i : Int) = 0))
def icK : Bool := match runC with
  | some q => icT q.2
  | none => false
set_option maxRecDepth 1000000 in
theorem icK_t : icK = true := by decide +kernel
theorem V0_t : icT V0 = true := by
  have h := icK_t
  unfold icK at h
  rw [run_ok] at h
  exact h
theorem V0_p : (∀ f, f ∈ icL → V0 f.1 f.2.1 = f.2.2) ∧ (∀ i : Nat, i < 200 → V0 53 (i : Int) = 0) ∧ (∀ i : Nat, i < 40 → V0 18 (i : Int) = 0) ∧ (∀ i : Nat, i < 480 → V0 186 (i : Int) = 0 ∧ V0 187 (i : Int) = 0) := by
  have h := V0_t
  simp only [icT, Bool.and_eq_true, decide_eq_true_eq, List.all_eq_true] at h
  obtain ⟨⟨⟨h1, h2⟩, h3⟩, h4⟩ := h
  exact ⟨h1, fun i hi => h2 i (List.mem_range.mpr hi), fun i hi => h3 i (List.mem_range.mpr hi), fun i hi => h4 i (List.mem_range.mpr hi)⟩
theorem V0_f (j : Nat) {a k v : Int} (h : icL[j]? = some (a, k, v)) : V0 a k = v := V0_p.1 (a, k, v) (List.mem_of_getElem? h)
def Gz : GM := (fun _ => 0, fun _ _ => 0, fun _ _ _ _ _ _ => 0, fun _ _ => 0)
def Sz : SL := (fun _ => 0, fun _ => 0, fun _ => 0, fun _ => 0)
def xz : ST := (Gz, Sz, fun k => if k = 5 ∨ k = 8 then -1 else 0, fun _ => Sz, fun _ => 0, fun _ => 0)
theorem xz_n {k : Int} (h : k ≠ 5) (h8 : k ≠ 8) : xN xz k = 0 := if_neg (by omega)
theorem xz_5 : xN xz 5 = -1 := rfl
theorem xz_8 : xN xz 8 = -1 := rfl
theorem qz_F : qF (xG xz) = 0 := rfl
theorem qz_P : qP (xG xz) = 0 := rfl
theorem qz_R : qR (xG xz) = 0 := rfl
theorem qz_pos : qPos (xG xz) = 2 := rfl
theorem Gz_ok : GOK (xG xz) := ⟨⟨by decide, by decide⟩, ⟨by decide, by decide⟩, ⟨by decide, by decide⟩, ⟨by decide, by decide⟩, fun _ => ⟨rfl, rfl, rfl⟩, fun k k0 k1 => by rw [qz_P] at k1; omega, fun r r0 r1 => by rw [qz_R] at r1; omega, fun _ _ _ _ _ _ => Or.inl rfl, fun _ _ _ _ _ _ _ _ _ _ => rfl, fun _ _ _ _ _ _ _ _ _ _ _ => rfl⟩
theorem Sz_ok : SOK (xG xz) (xS xz) := ⟨fun p p0 p1 => by rw [qz_R] at p1; omega, fun p q p0 p1 => by rw [qz_R] at p1; omega, fun r r0 r1 => by rw [qz_R] at r1; omega⟩
theorem Sz_nm : SNM (xG xz) (xS xz) := fun i _ => ⟨rfl, rfl, rfl, rfl⟩
theorem IV_z : IV 0 xz := by
  refine ⟨Gz_ok, Sz_ok, Sz_nm, ?_, ?_, ?_, ?_, ?_, ?_, ?_, ?_, ?_, ?_, ?_, ?_, fun k k0 k1 => ?_, fun i i0 i1 => ?_, fun e => ?_, fun i i0 i1 => ?_⟩
  · rw [xz_n (by decide) (by decide)]; exact ⟨by decide, by decide, fun _ => rfl⟩
  · rw [xz_n (by decide) (by decide)]; exact ⟨by decide, by decide⟩
  · exact Or.inl rfl
  · rw [xz_n (by decide) (by decide), qz_pos]; exact ⟨by decide, by decide, fun _ => rfl⟩
  · rw [xz_n (by decide) (by decide)]; exact ⟨by decide, by decide⟩
  · rw [xz_5]; exact ⟨by decide, by decide⟩
  · rw [xz_n (by decide) (by decide)]; exact ⟨by decide, by decide⟩
  · rw [xz_n (by decide) (by decide)]; exact ⟨by decide, by decide⟩
  · rw [xz_n (by decide) (by decide)]; exact ⟨by decide, by decide⟩
  · rw [xz_n (by decide) (by decide)]; exact ⟨by decide, by decide⟩
  · rw [xz_n (by decide) (by decide)]; exact ⟨by decide, by decide⟩
  · rw [xz_n (by decide) (by decide)]; exact ⟨by decide, by decide⟩
  · rw [xz_n (by omega) (by omega)]; exact ⟨by decide, by decide⟩
  · rw [xz_n (by decide) (by decide)] at i1; omega
  · rw [xz_n (by decide) (by decide)] at e; omega
  · rw [xz_n (by decide) (by decide)] at i1; omega
theorem rI_z : rI xz V0 := by
  refine ⟨0, ⟨(V0_f 0 rfl), Or.inl rfl, (V0_f 1 rfl), (V0_f 2 rfl), (V0_f 3 rfl), (V0_f 4 rfl), fun k k0 k1 => by rw [qz_P] at k1; omega, fun r r0 r1 => by rw [qz_R] at r1; omega⟩, fun r r0 r1 => by rw [qz_R] at r1; omega, fun k k0 k1 => by rw [qz_P] at k1; omega, fun p p0 p1 => by rw [qz_R] at p1; omega, ⟨(V0_f 5 rfl), (V0_f 6 rfl), (V0_f 7 rfl), (V0_f 8 rfl), (V0_f 9 rfl), (V0_f 10 rfl), (V0_f 11 rfl), (V0_f 12 rfl), (V0_f 13 rfl), (V0_f 14 rfl)⟩, ⟨(V0_f 15 rfl), (V0_f 16 rfl), (V0_f 17 rfl), (V0_f 18 rfl)⟩, fun k k0 k1 => ?_, fun i i0 i1 => ?_, fun i i0 i1 => ?_, fun i i0 i1 => ?_, fun e => ?_, fun j j0 j1 => ?_⟩
  · rw [xz_n (by omega) (by omega)]
    have hk : k = 0 ∨ k = 1 ∨ k = 2 ∨ k = 3 ∨ k = 4 ∨ k = 5 := by omega
    rcases hk with q0 | q0 | q0 | q0 | q0 | q0 <;> subst q0
    · exact (V0_f 19 rfl)
    · exact (V0_f 20 rfl)
    · exact (V0_f 21 rfl)
    · exact (V0_f 22 rfl)
    · exact (V0_f 23 rfl)
    · exact (V0_f 24 rfl)
  · rw [xz_n (by decide) (by decide)] at i1; omega
  · rw [xz_n (by decide) (by decide)] at i1; omega
  · rw [xz_n (by decide) (by decide)] at i1; omega
  · rw [xz_n (by decide) (by decide)] at e; omega
  · have := V0_p.2.2.2 j.toNat (by omega)
    rw [show ((j.toNat : Nat) : Int) = j by omega] at this
    exact ⟨Or.inl this.1, Or.inl this.2⟩
theorem dI_z : dI xz V0 := by
  refine ⟨3, Or.inl rfl, ⟨(V0_f 25 rfl), (V0_f 26 rfl), (V0_f 27 rfl)⟩, ⟨⟨(V0_f 28 rfl), (V0_f 29 rfl), (V0_f 30 rfl), (V0_f 32 rfl), fun k k0 k1 => by rw [qz_P] at k1; omega, fun r r0 r1 => by rw [qz_R] at r1; omega⟩, ⟨(V0_f 31 rfl), fun z => absurd rfl z⟩, fun p k g p0 p1 k0 k1 g0 g1 => ?_, fun r r0 r1 => by rw [qz_R] at r1; omega⟩, fun k k0 k1 => by rw [qz_P] at k1; omega, ⟨(V0_f 33 rfl), fun p p0 p1 => by rw [qz_R] at p1; omega⟩, ⟨⟨(V0_f 34 rfl), ⟨(V0_f 35 rfl), fun i hi => absurd hi (Nat.not_lt_zero i)⟩, ⟨(V0_f 36 rfl), fun i hi => absurd hi (Nat.not_lt_zero i)⟩, ⟨(V0_f 37 rfl), fun i hi => absurd hi (Nat.not_lt_zero i)⟩⟩, Or.inl (V0_f 38 rfl), fun e => ?_, fun _ p p0 p1 => ?_⟩, ⟨Or.inl (V0_f 39 rfl), fun e => ?_, Or.inl ⟨(V0_f 40 rfl), (V0_f 41 rfl)⟩⟩, Or.inl (V0_f 42 rfl), Or.inl (V0_f 43 rfl), ⟨(V0_f 44 rfl), fun i i0 i1 => ?_⟩, ⟨(V0_f 45 rfl), fun e => ?_⟩, ⟨(V0_f 46 rfl), (V0_f 47 rfl), (V0_f 48 rfl)⟩, ⟨(V0_f 49 rfl), fun i i0 i1 => ?_⟩, ⟨(V0_f 50 rfl), fun i i0 i1 => ?_⟩, ⟨(V0_f 51 rfl), (V0_f 52 rfl), (V0_f 53 rfl), (V0_f 54 rfl), (V0_f 55 rfl), (V0_f 56 rfl), fun k k0 k1 => ?_, fun i i0 i1 => ?_, fun i i0 i1 => ?_, (V0_f 99 rfl), (V0_f 100 rfl)⟩⟩
  · rw [qz_pos] at p1
    have := V0_p.2.2.1 ((2 * p + k) * 10 + g).toNat (by omega)
    rw [show ((((2 * p + k) * 10 + g).toNat : Nat) : Int) = (2 * p + k) * 10 + g by omega] at this
    refine ⟨0, this, by decide, fun r _ => ⟨fun z => ?_, fun z => ?_⟩⟩
    · rw [Nat.zero_testBit] at z; cases z
    · rw [Nat.zero_testBit] at z; cases z
  · rw [(V0_f 38 rfl)] at e; omega
  · have := V0_p.2.1 p.toNat (by omega)
    rw [show ((p.toNat : Nat) : Int) = p by omega] at this
    exact this
  · rw [(V0_f 39 rfl)] at e; omega
  · rw [xz_n (by decide) (by decide)] at i1; omega
  · rw [xz_n (by decide) (by decide)] at e; omega
  · rw [xz_n (by decide) (by decide)] at i1; omega
  · rw [xz_n (by decide) (by decide)] at i1; omega
  · rw [xz_n (by omega) (by omega)]
    have hk : k = 0 ∨ k = 1 ∨ k = 2 ∨ k = 3 ∨ k = 4 ∨ k = 5 := by omega
    rcases hk with q0 | q0 | q0 | q0 | q0 | q0 <;> subst q0
    · exact (V0_f 57 rfl)
    · exact (V0_f 58 rfl)
    · exact (V0_f 59 rfl)
    · exact (V0_f 60 rfl)
    · exact (V0_f 61 rfl)
    · exact (V0_f 62 rfl)
  · have hk : i = 0 ∨ i = 1 ∨ i = 2 ∨ i = 3 ∨ i = 4 ∨ i = 5 ∨ i = 6 ∨ i = 7 ∨ i = 8 ∨ i = 9 ∨ i = 10 ∨ i = 11 ∨ i = 12 := by omega
    rcases hk with q0 | q0 | q0 | q0 | q0 | q0 | q0 | q0 | q0 | q0 | q0 | q0 | q0 <;> subst q0
    · exact (V0_f 63 rfl)
    · exact (V0_f 64 rfl)
    · exact (V0_f 65 rfl)
    · exact (V0_f 66 rfl)
    · exact (V0_f 67 rfl)
    · exact (V0_f 68 rfl)
    · exact (V0_f 69 rfl)
    · exact (V0_f 70 rfl)
    · exact (V0_f 71 rfl)
    · exact (V0_f 72 rfl)
    · exact (V0_f 73 rfl)
    · exact (V0_f 74 rfl)
    · exact (V0_f 75 rfl)
  · have hk : i = 0 ∨ i = 1 ∨ i = 2 ∨ i = 3 ∨ i = 4 ∨ i = 5 ∨ i = 6 ∨ i = 7 ∨ i = 8 ∨ i = 9 ∨ i = 10 ∨ i = 11 ∨ i = 12 ∨ i = 13 ∨ i = 14 ∨ i = 15 ∨ i = 16 ∨ i = 17 ∨ i = 18 ∨ i = 19 ∨ i = 20 ∨ i = 21 ∨ i = 22 := by omega
    rcases hk with q0 | q0 | q0 | q0 | q0 | q0 | q0 | q0 | q0 | q0 | q0 | q0 | q0 | q0 | q0 | q0 | q0 | q0 | q0 | q0 | q0 | q0 | q0 <;> subst q0
    · exact (V0_f 76 rfl)
    · exact (V0_f 77 rfl)
    · exact (V0_f 78 rfl)
    · exact (V0_f 79 rfl)
    · exact (V0_f 80 rfl)
    · exact (V0_f 81 rfl)
    · exact (V0_f 82 rfl)
    · exact (V0_f 83 rfl)
    · exact (V0_f 84 rfl)
    · exact (V0_f 85 rfl)
    · exact (V0_f 86 rfl)
    · exact (V0_f 87 rfl)
    · exact (V0_f 88 rfl)
    · exact (V0_f 89 rfl)
    · exact (V0_f 90 rfl)
    · exact (V0_f 91 rfl)
    · exact (V0_f 92 rfl)
    · exact (V0_f 93 rfl)
    · exact (V0_f 94 rfl)
    · exact (V0_f 95 rfl)
    · exact (V0_f 96 rfl)
    · exact (V0_f 97 rfl)
    · exact (V0_f 98 rfl)
