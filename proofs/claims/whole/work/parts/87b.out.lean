/-! what the machine makes of a piece of the grammar -/
def OUT (K : TKs) (ns : List (List Int)) (H : Int → Int) (N rr pl kb k : Int) (s : MS) (kd : Int) (tl : Int × Int) (r : List FR) (os : List Int) (cs pre : CDs) (PH : Int → Int → Prop) (R : R3) : Prop :=
  (R.1 = 0 → ∃ (j : Nat) (x : CDs) (p : List Int) (ph : Int), (j : Int) ≤ R.2.1 - k ∧ (∀ f, mR K ns H (f + j) s = mR K ns H f (R.2.1, 1, (kd, ph, 0, tl) :: r, p ++ os, cs ++ x)) ∧ x ++ p.map zO = pre ++ R.2.2.1 ∧ (∀ q, q ∈ p → rr ≤ rkO q) ∧ (p.length : Int) ≤ nk K R.2.1 - nk K kb + pl ∧ PH ph R.2.1) ∧
  (R.1 ≠ 0 → ∃ (j : Nat) (c : CDs), (j : Int) ≤ N - k + 1 ∧ ∀ f, mR K ns H (f + j) s = some (R.1, R.2.1, c))
theorem OUT_seq {K : TKs} {ns : List (List Int)} {H : Int → Int} {N rr1 pl1 rr pl kb k : Int} {s : MS} {kd : Int} {tl : Int × Int} {r : List FR} {os : List Int} {cs pre : CDs} {PH1 PH : Int → Int → Prop} {A : R3} {fL : Int → R3}
    (hA : OUT K ns H N rr1 pl1 kb k s kd tl r os cs pre PH1 A) (hL : A.1 = 0 → ∀ (ph : Int) (x : CDs) (p : List Int), x ++ p.map zO = pre ++ A.2.2.1 → (∀ q, q ∈ p → rr1 ≤ rkO q) → (p.length : Int) ≤ nk K A.2.1 - nk K kb + pl1 → PH1 ph A.2.1 → OUT K ns H N rr pl kb A.2.1 (A.2.1, 1, (kd, ph, 0, tl) :: r, p ++ os, cs ++ x) kd tl r os (cs ++ x) (p.map zO) PH (fL A.2.1)) :
    OUT K ns H N rr pl kb k s kd tl r os cs pre PH (sqR A fL) := by
  by_cases a : A.1 = 0
  · obtain ⟨j, x, p, ph, hj, hm, hx, hr, hl, hp⟩ := hA.1 a
    have h2 := hL a ph x p hx hr hl hp
    rw [sqR_o a]
    by_cases b : (fL A.2.1).1 = 0
    · rw [if_pos b]
      refine ⟨fun _ => ?_, fun z => absurd rfl z⟩
      obtain ⟨j2, x2, p2, ph2, hj2, hm2, hx2, hr2, hl2, hp2⟩ := h2.1 b
      refine ⟨j2 + j, x ++ x2, p2, ph2, ?_, fun f => ?_, ?_, hr2, hl2, hp2⟩
      · show ((j2 + j : Nat) : Int) ≤ (fL A.2.1).2.1 - k
        omega
      · show mR K ns H (f + (j2 + j)) s = mR K ns H f ((fL A.2.1).2.1, 1, (kd, ph2, 0, tl) :: r, p2 ++ os, cs ++ (x ++ x2))
        rw [show f + (j2 + j) = (f + j2) + j by omega, hm, hm2, List.append_assoc]
      · show (x ++ x2) ++ p2.map zO = pre ++ (A.2.2.1 ++ (fL A.2.1).2.2.1)
        rw [List.append_assoc, hx2, ← List.append_assoc, hx, List.append_assoc]
    · rw [if_neg b]
      refine ⟨fun z => absurd z b, fun _ => ?_⟩
      obtain ⟨j2, c, hj2, hm2⟩ := h2.2 b
      exact ⟨j2 + j, c, by omega, fun f => by rw [show f + (j2 + j) = (f + j2) + j by omega, hm, hm2]⟩
  · rw [sqR_f a]
    exact ⟨fun z => absurd z a, fun _ => hA.2 a⟩
/-- behind what is read there is its operator, kept back -/
theorem OUT_op {K : TKs} {ns : List (List Int)} {H : Int → Int} {N rr1 pl1 rr pl kb k op : Int} {s t : MS} {kd : Int} {tl : Int × Int} {r : List FR} {os p : List Int} {cs : CDs} {PH : Int → Int → Prop} {A : R3}
    (hs : ∀ f, mR K ns H (f + 1) s = mR K ns H f t) (hA : OUT K ns H N rr1 pl1 (k + 1) (k + 1) t kd tl r (op :: os) (cs ++ p.map zO) [] PH A) (hrr : rr ≤ rr1) (hop : rr ≤ rkO op) (hpl : pl1 + 1 ≤ pl) (hkb : nk K kb ≤ nk K (k + 1)) :
    OUT K ns H N rr pl kb k s kd tl r os cs (p.map zO) PH (sqR A (fun j => okR j [(op, 0)])) := by
  by_cases a : A.1 = 0
  · obtain ⟨j, x, p1, ph, hj, hm, hx, hr, hl, hp⟩ := hA.1 a
    rw [sqR_ok a]
    refine ⟨fun _ => ⟨j + 1, p.map zO ++ x, p1 ++ [op], ph, ?_, fun f => ?_, ?_, fun q hq => ?_, ?_, hp⟩, fun z => absurd rfl z⟩
    · show ((j + 1 : Nat) : Int) ≤ A.2.1 - k
      omega
    · show mR K ns H (f + (j + 1)) s = mR K ns H f (A.2.1, 1, (kd, ph, 0, tl) :: r, (p1 ++ [op]) ++ os, cs ++ (p.map zO ++ x))
      rw [show f + (j + 1) = (f + j) + 1 by omega, hs, hm, List.append_assoc, List.append_assoc]
      rfl
    · show (p.map zO ++ x) ++ (p1 ++ [op]).map zO = p.map zO ++ (A.2.2.1 ++ [(op, 0)])
      rw [List.map_append, List.append_assoc, ← List.append_assoc x, hx]
      rfl
    · rcases List.mem_append.mp hq with h | h
      · have := hr q h; omega
      · rw [List.mem_singleton.mp h]; exact hop
    · show (((p1 ++ [op]).length : Nat) : Int) ≤ nk K A.2.1 - nk K kb + pl
      simp only [List.length_append, List.length_cons, List.length_nil]
      omega
  · rw [sqR_f a]
    obtain ⟨j, c, hj, hm⟩ := hA.2 a
    exact ⟨fun z => absurd z a, fun _ => ⟨j + 1, c, by omega, fun f => by rw [show f + (j + 1) = (f + j) + 1 by omega, hs, hm]⟩⟩
theorem OUT_ph {K : TKs} {ns : List (List Int)} {H : Int → Int} {N rr pl kb k : Int} {s : MS} {kd : Int} {tl : Int × Int} {r : List FR} {os : List Int} {cs pre : CDs} {PH1 PH : Int → Int → Prop} {R : R3}
    (h : OUT K ns H N rr pl kb k s kd tl r os cs pre PH1 R) (hp : ∀ ph, PH1 ph R.2.1 → PH ph R.2.1) : OUT K ns H N rr pl kb k s kd tl r os cs pre PH R :=
  ⟨fun a => by
    obtain ⟨j, x, p, ph, h1, h2, h3, h4, h5, h6⟩ := h.1 a
    exact ⟨j, x, p, ph, h1, h2, h3, h4, h5, hp ph h6⟩, h.2⟩
theorem OUT_fl {K : TKs} {ns : List (List Int)} {H : Int → Int} {N rr pl kb k : Int} {s : MS} {kd : Int} {tl : Int × Int} {r : List FR} {os : List Int} {cs pre c : CDs} {PH : Int → Int → Prop} {q i : Int} (hq : q ≠ 0) (hk : k ≤ N) (h : stp K ns H s = some (Sum.inr (q, K.2.1 i, c))) :
    OUT K ns H N rr pl kb k s kd tl r os cs pre PH (flR K q i) :=
  ⟨fun a => absurd a hq, fun _ => ⟨1, c, by omega, fun f => mR_r h f⟩⟩
/-- nothing is read -/
theorem OUT_stop {K : TKs} {ns : List (List Int)} {H : Int → Int} {N rr pl kb k ph : Int} {kd : Int} {tl : Int × Int} {r : List FR} {os p : List Int} {cs : CDs} {PH : Int → Int → Prop} (hr : ∀ q, q ∈ p → rr ≤ rkO q) (hl : (p.length : Int) ≤ nk K k - nk K kb + pl) (hp : PH ph k) :
    OUT K ns H N rr pl kb k (k, 1, (kd, ph, 0, tl) :: r, p ++ os, cs) kd tl r os cs (p.map zO) PH (okR k []) :=
  ⟨fun _ => ⟨0, [], p, ph, by show ((0 : Nat) : Int) ≤ k - k; omega, fun f => by
      show mR K ns H (f + 0) _ = mR K ns H f (k, 1, (kd, ph, 0, tl) :: r, p ++ os, cs ++ [])
      rw [List.append_nil, Nat.add_zero], by
      show [] ++ p.map zO = p.map zO ++ []
      rw [List.append_nil, List.nil_append], hr, hl, hp⟩, fun z => absurd rfl z⟩
/-- a single word is read -/
theorem OUT_leaf {K : TKs} {ns : List (List Int)} {H : Int → Int} {N rr pl k ph : Int} {s : MS} {kd : Int} {tl : Int × Int} {r : List FR} {os : List Int} {cs : CDs} {c : Int × Int} {PH : Int → Int → Prop} (h : stp K ns H s = some (Sum.inl (k + 1, 1, (kd, ph, 0, tl) :: r, os, cs ++ [c]))) (hpl : 0 ≤ pl) (hp : PH ph (k + 1)) :
    OUT K ns H N rr pl k k s kd tl r os cs [] PH (okR (k + 1) [c]) :=
  ⟨fun _ => ⟨1, [c], [], ph, by show ((1 : Nat) : Int) ≤ k + 1 - k; omega, fun f => mR_l h f, rfl, (fun q hq => by cases hq), by
      show (([] : List Int).length : Int) ≤ nk K (k + 1) - nk K k + pl
      have := nk_m (K := K) (show k ≤ k + 1 by omega)
      simp only [List.length_nil]
      omega, hp⟩, fun z => absurd rfl z⟩
/-- one turn before it -/
theorem OUT_f1 {K : TKs} {ns : List (List Int)} {H : Int → Int} {N rr pl rr' pl' kb kb' k : Int} {s t : MS} {kd kd' : Int} {tl tl' : Int × Int} {r r' : List FR} {os os' : List Int} {cs cs' pre pre' : CDs} {PH PH' : Int → Int → Prop} {A : R3} {fL : Int → R3} (hs : ∀ f, mR K ns H (f + 1) s = mR K ns H f t)
    (hA : OUT K ns H N rr' pl' kb' (k + 1) t kd' tl' r' os' cs' pre' PH' A)
    (hL : A.1 = 0 → ∀ (j : Nat) (ph : Int) (x : CDs) (p : List Int), (j : Int) ≤ A.2.1 - k → (∀ f, mR K ns H (f + j) s = mR K ns H f (A.2.1, 1, (kd', ph, 0, tl') :: r', p ++ os', cs' ++ x)) → x ++ p.map zO = pre' ++ A.2.2.1 → (∀ q, q ∈ p → rr' ≤ rkO q) → (p.length : Int) ≤ nk K A.2.1 - nk K kb' + pl' → PH' ph A.2.1 → OUT K ns H N rr pl kb k s kd tl r os cs pre PH (sqR A fL)) :
    OUT K ns H N rr pl kb k s kd tl r os cs pre PH (sqR A fL) := by
  by_cases a : A.1 = 0
  · obtain ⟨j, x, p, ph, hj, hm, hx, hr, hl, hp⟩ := hA.1 a
    exact hL a (j + 1) ph x p (by omega) (fun f => by rw [show f + (j + 1) = (f + j) + 1 by omega, hs, hm]) hx hr hl hp
  · rw [sqR_f a]
    obtain ⟨j, c, hj, hm⟩ := hA.2 a
    exact ⟨fun z => absurd z a, fun _ => ⟨j + 1, c, by omega, fun f => by rw [show f + (j + 1) = (f + j) + 1 by omega, hs, hm]⟩⟩
theorem OUT_sqb {K : TKs} {ns : List (List Int)} {H : Int → Int} {N rr pl kb k : Int} {s t : MS} {kd : Int} {tl : Int × Int} {r : List FR} {os : List Int} {cs : CDs} {PH : Int → Int → Prop} {A : R3} {fL : Int → R3} {j : Nat} (a : A.1 = 0) (hj : (j : Int) ≤ A.2.1 - k) (hm : ∀ f, mR K ns H (f + j) s = mR K ns H f t)
    (h2 : OUT K ns H N rr pl kb A.2.1 t kd tl r os (cs ++ A.2.2.1) [] PH (fL A.2.1)) : OUT K ns H N rr pl kb k s kd tl r os cs [] PH (sqR A fL) := by
  rw [sqR_o a]
  by_cases b : (fL A.2.1).1 = 0
  · rw [if_pos b]
    refine ⟨fun _ => ?_, fun z => absurd rfl z⟩
    obtain ⟨j2, x2, p2, ph2, hj2, hm2, hx2, hr2, hl2, hp2⟩ := h2.1 b
    refine ⟨j2 + j, A.2.2.1 ++ x2, p2, ph2, ?_, fun f => ?_, ?_, hr2, hl2, hp2⟩
    · show ((j2 + j : Nat) : Int) ≤ (fL A.2.1).2.1 - k
      omega
    · show mR K ns H (f + (j2 + j)) s = mR K ns H f ((fL A.2.1).2.1, 1, (kd, ph2, 0, tl) :: r, p2 ++ os, cs ++ (A.2.2.1 ++ x2))
      rw [show f + (j2 + j) = (f + j2) + j by omega, hm, hm2, List.append_assoc]
    · show (A.2.2.1 ++ x2) ++ p2.map zO = [] ++ (A.2.2.1 ++ (fL A.2.1).2.2.1)
      rw [List.append_assoc, hx2]
      rfl
  · rw [if_neg b]
    refine ⟨fun z => absurd z b, fun _ => ?_⟩
    obtain ⟨j2, c, hj2, hm2⟩ := h2.2 b
    exact ⟨j2 + j, c, by omega, fun f => by rw [show f + (j2 + j) = (f + j2) + j by omega, hm, hm2]⟩
