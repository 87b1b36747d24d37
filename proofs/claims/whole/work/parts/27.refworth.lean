/-! worths: what is to hold of them, that this is one thing, and that the reference's are so -/
def nx (G : GM) (s : SL) (p : Int) : List Int := (cds G s p).map (nxt G s p)
theorem getD_e {l : List Int} {j : Nat} (hj : j < l.length) : l.getD j 0 = l[j] := by
  rw [List.getD_eq_getElem?_getD, List.getElem?_eq_getElem hj]; rfl
theorem ex_idx {l : List Int} {P : Int → Prop} : (∃ e, e ∈ l ∧ P e) ↔ ∃ j : Nat, j < l.length ∧ P (l.getD j 0) := by
  constructor
  · rintro ⟨e, he, hp⟩
    obtain ⟨j, hj, rfl⟩ := List.getElem_of_mem he
    refine ⟨j, hj, ?_⟩
    rw [getD_e hj]; exact hp
  · rintro ⟨j, hj, hp⟩
    rw [getD_e hj] at hp
    exact ⟨_, List.getElem_mem hj, hp⟩
theorem all_idx {l : List Int} {P : Int → Prop} : (∀ e, e ∈ l → P e) ↔ ∀ j : Nat, j < l.length → P (l.getD j 0) := by
  constructor
  · intro h j hj
    rw [getD_e hj]
    exact h _ (List.getElem_mem hj)
  · intro h e he
    obtain ⟨j, hj, rfl⟩ := List.getElem_of_mem he
    have := h j hj
    rw [getD_e hj] at this
    exact this
theorem getD_mem {l : List Int} {j : Nat} (hj : j < l.length) : l.getD j 0 ∈ l := by
  rw [getD_e hj]
  exact List.getElem_mem hj
theorem getD_map0 (f : Int → Int) (l : List Int) (j : Nat) (hj : j < l.length) : (l.map f).getD j 0 = f (l.getD j 0) := by
  rw [getD_e (by simpa using hj), getD_e hj, List.getElem_map]
theorem nx_len (G : GM) (s : SL) (p : Int) : (nx G s p).length = (cds G s p).length := List.length_map _
theorem nx_getD {G : GM} {s : SL} {p : Int} {j : Nat} (hj : j < (cds G s p).length) : (nx G s p).getD j 0 = nxt G s p ((cds G s p).getD j 0) := getD_map0 _ _ _ hj
theorem cds_mem {G : GM} {s : SL} {p c : Int} (h : c ∈ cds G s p) : 0 ≤ c ∧ c < 20 ∧ 0 ≤ c / 10 ∧ c / 10 < qP G ∧ 0 ≤ c % 10 ∧ c % 10 ≤ qF G ∧ law G s p (c / 10) (c % 10) = 1 := by
  unfold cds at h
  rw [List.mem_filter, List.mem_map] at h
  obtain ⟨⟨n, hn, e⟩, ho⟩ := h
  rw [List.mem_range] at hn
  unfold okc at ho
  rw [Bool.and_eq_true, Bool.and_eq_true, decide_eq_true_eq, decide_eq_true_eq, decide_eq_true_eq] at ho
  omega
theorem nx_r {G : GM} (hG : GOK G) {s : SL} {p e : Int} (hp : 0 ≤ p) (h : e ∈ nx G s p) : e = -1 ∨ e = -2 ∨ (0 ≤ e ∧ e < qPos G) := by
  unfold nx at h
  rw [List.mem_map] at h
  obtain ⟨c, hc, he⟩ := h
  have := cds_mem hc
  have hl := lead_r hG (s := s) (p := p) (k := c / 10) (g := c % 10) hp (by omega)
  unfold nxt at he
  rw [he] at hl
  exact hl
-- ---- what holds of worths and steps, position by position
def Sol (m : Int → List Int) (u : Int) (D : Int → Prop) (w t : Int → Int) : Prop :=
  ∀ p, D p → (m p = [] → w p = u ∧ t p = if u = 0 then -1 else 0) ∧ (m p ≠ [] →
    (w p = 1 ∧ 1 ≤ t p ∧ (∃ e, e ∈ m p ∧ ((e = -1 ∧ t p = 1) ∨ (0 ≤ e ∧ w e = -1 ∧ t p = t e + 1))) ∧ (∀ e, e ∈ m p → (e = -1 → t p ≤ 1) ∧ (0 ≤ e → w e = -1 → t p ≤ t e + 1))) ∨
    (w p = -1 ∧ 1 ≤ t p ∧ (∃ e, e ∈ m p ∧ ((e < 0 ∧ t p = 1) ∨ (0 ≤ e ∧ t p = t e + 1))) ∧ (∀ e, e ∈ m p → e ≠ -1 ∧ (0 ≤ e → w e = 1 ∧ t e + 1 ≤ t p))) ∨
    (w p = 0 ∧ t p = -1 ∧ (∀ e, e ∈ m p → e ≠ -1 ∧ (0 ≤ e → w e ≠ -1)) ∧ (∃ e, e ∈ m p ∧ 0 ≤ e ∧ w e ≠ 1)))
def cl (m : Int → List Int) (D : Int → Prop) : Prop := ∀ p, D p → ∀ e, e ∈ m p → 0 ≤ e → D e
theorem Sol_t {m : Int → List Int} {u : Int} {D : Int → Prop} {w t : Int → Int} (h : Sol m u D w t) {p : Int} (hp : D p) : (w p ≠ 0 → 0 ≤ t p) ∧ (w p = 0 → t p = -1) := by
  have := h p hp
  by_cases hm : m p = []
  · obtain ⟨a, c⟩ := this.1 hm
    by_cases hu : u = 0
    · rw [if_pos hu] at c; omega
    · rw [if_neg hu] at c; omega
  · rcases this.2 hm with ⟨a, b, -⟩ | ⟨a, b, -⟩ | ⟨a, b, -⟩ <;> omega
theorem Sol_half {m : Int → List Int} {u : Int} {D : Int → Prop} {w t w' t' : Int → Int} (h1 : Sol m u D w t) (h2 : Sol m u D w' t') (hc : cl m D) (n : Int)
    (ih : ∀ q, D q → (w q ≠ 0 → t q < n → w' q = w q ∧ t' q = t q) ∧ (w' q ≠ 0 → t' q < n → w q = w' q ∧ t q = t' q)) : ∀ p, D p → w p ≠ 0 → t p = n → w' p = w p ∧ t' p = t p := by
  intro p hp hw ht
  have a1 := h1 p hp
  have a2 := h2 p hp
  by_cases hm : m p = []
  · have b1 := a1.1 hm
    have b2 := a2.1 hm
    exact ⟨by omega, by rw [b1.2, b2.2]⟩
  have ihp := (ih p hp).2
  have c2 := a2.2 hm
  rcases a1.2 hm with ⟨x1, x2, ⟨e, he, x3⟩, x4⟩ | ⟨x1, x2, x3, x4⟩ | ⟨x1, -⟩
  · -- won
    have key : w' p = 1 ∧ t' p ≤ n := by
      rcases x3 with ⟨e1, e2⟩ | ⟨e0, e1, e2⟩
      · rcases c2 with ⟨y1, y2, y3, y4⟩ | ⟨y1, y2, y3, y4⟩ | ⟨y1, y2, y3, y4⟩
        · have := (y4 e he).1 e1
          exact ⟨y1, by omega⟩
        · exact absurd e1 (y4 e he).1
        · exact absurd e1 (y3 e he).1
      · have hd := hc p hp e he e0
        have q := (ih e hd).1 (by omega) (by omega)
        rcases c2 with ⟨y1, y2, y3, y4⟩ | ⟨y1, y2, y3, y4⟩ | ⟨y1, y2, y3, y4⟩
        · have := (y4 e he).2 e0 (by omega)
          exact ⟨y1, by omega⟩
        · have := ((y4 e he).2 e0).1
          omega
        · have := (y3 e he).2 e0
          omega
    by_cases hlt : t' p < n
    · have := ihp (by omega) hlt
      omega
    · omega
  · -- lost
    have hall : ∀ e, e ∈ m p → e ≠ -1 ∧ (0 ≤ e → w' e = 1 ∧ t' e = t e ∧ t e + 1 ≤ n) := by
      intro e he
      refine ⟨(x4 e he).1, fun e0 => ?_⟩
      have q := (x4 e he).2 e0
      have r := (ih e (hc p hp e he e0)).1 (by omega) (by omega)
      omega
    have key : w' p = -1 ∧ t' p ≤ n := by
      rcases c2 with ⟨y1, y2, ⟨e, he, y3⟩, y4⟩ | ⟨y1, y2, ⟨e, he, y3⟩, y4⟩ | ⟨y1, y2, y3, ⟨e, he, y4⟩⟩
      · have := hall e he
        rcases y3 with y | y
        · exact absurd y.1 this.1
        · have := this.2 y.1
          omega
      · have := hall e he
        refine ⟨y1, ?_⟩
        rcases y3 with y | y
        · omega
        · have := this.2 y.1
          omega
      · have := (hall e he).2 y4.1
        omega
    by_cases hlt : t' p < n
    · have := ihp (by omega) hlt
      omega
    · omega
  · exact absurd x1 hw
theorem Sol_uniq {m : Int → List Int} {u : Int} {D : Int → Prop} {w t w' t' : Int → Int} (h1 : Sol m u D w t) (h2 : Sol m u D w' t') (hc : cl m D) {p : Int} (hp : D p) : w p = w' p ∧ t p = t' p := by
  have main : ∀ n : Nat, ∀ q, D q → (w q ≠ 0 → t q < n → w' q = w q ∧ t' q = t q) ∧ (w' q ≠ 0 → t' q < n → w q = w' q ∧ t q = t' q) := by
    intro n
    induction n with
    | zero =>
      intro q hq
      have a1 := (Sol_t h1 hq).1
      have a2 := (Sol_t h2 hq).1
      exact ⟨fun x y => by have := a1 x; omega, fun x y => by have := a2 x; omega⟩
    | succ n ih =>
      intro q hq
      refine ⟨fun x y => ?_, fun x y => ?_⟩
      · by_cases hl : t q < n
        · exact (ih q hq).1 x hl
        · exact Sol_half h1 h2 hc n ih q hq x (by omega)
      · by_cases hl : t' q < n
        · exact (ih q hq).2 x hl
        · exact Sol_half h2 h1 hc n (fun q hq => ⟨(ih q hq).2, (ih q hq).1⟩) q hq x (by omega)
  have b1 := Sol_t h1 hp
  have b2 := Sol_t h2 hp
  by_cases hw : w p = 0
  · by_cases hw' : w' p = 0
    · exact ⟨by omega, by rw [b1.2 hw, b2.2 hw']⟩
    · have := (main ((t' p).toNat + 1) p hp).2 hw' (by have := b2.1 hw'; omega)
      exact this
  · have := (main ((t p).toNat + 1) p hp).1 hw (by have := b1.1 hw; omega)
    exact ⟨this.1.symm, this.2.symm⟩
theorem Sol_sub {m : Int → List Int} {u : Int} {D E : Int → Prop} {w t : Int → Int} (h : Sol m u D w t) (hs : ∀ p, E p → D p) : Sol m u E w t := fun p hp => h p (hs p hp)
/-- two that are so agree where both speak -/
theorem Sol_two {m : Int → List Int} {u : Int} {D E : Int → Prop} {w t w' t' : Int → Int} (h1 : Sol m u D w t) (h2 : Sol m u E w' t') (c1 : cl m D) (c2 : cl m E) {p : Int} (hp : D p) (hp2 : E p) : w p = w' p ∧ t p = t' p :=
  Sol_uniq (D := fun q => D q ∧ E q) (Sol_sub h1 fun _ h => h.1) (Sol_sub h2 fun _ h => h.2) (fun q hq e he e0 => ⟨c1 q hq.1 e he e0, c2 q hq.2 e he e0⟩) ⟨hp, hp2⟩
-- ---- the reference's rows of moves
def RM (G : GM) (s : SL) (V : ASt) : Prop := ∀ p, 0 ≤ p → p < 200 → V 178 p = 1 → p < qPos G ∧ V 175 p = (nx G s p).length ∧ (nx G s p).length ≤ 20 ∧
  (∀ j : Nat, j < (nx G s p).length → V 176 (20 * p + j) = (cds G s p).getD j 0 ∧ V 177 (20 * p + j) = (nx G s p).getD j 0) ∧ (∀ e, e ∈ nx G s p → e = -1 ∨ e = -2 ∨ (0 ≤ e ∧ e < qPos G ∧ V 178 e = 1))
theorem RM_of {G : GM} (hG : GOK G) {s : SL} {V : ASt} (h : LD G s V (V 142 56)) : RM G s V := by
  intro p h0 h1 hl
  obtain ⟨⟨q1, q2, q3, q4, q5⟩, hL⟩ := h
  rcases q5 p h0 h1 with k | ⟨-, i, i0, i1, i2⟩
  · omega
  have hi := hL i i0 i1
  rw [i2] at hi
  have hr := q3 i i0 i1
  rw [i2] at hr
  refine ⟨hr.2.1, by rw [nx_len]; exact hi.1.1, by rw [nx_len]; exact cds_le G s p, fun j hj => ?_, fun e he => ?_⟩
  · rw [nx_len] at hj
    rw [nx_getD hj]
    exact hi.1.2 j hj
  · rcases nx_r hG h0 he with k | k | k
    · exact Or.inl k
    · exact Or.inr (Or.inl k)
    · refine Or.inr (Or.inr ⟨k.1, k.2, ?_⟩)
      unfold nx at he
      rw [List.mem_map] at he
      obtain ⟨c, hc, e1⟩ := he
      rw [← e1] at k ⊢
      exact hi.2 c hc k.1
def wPos (V : ASt) (p : Int) : Prop := 0 ≤ p ∧ p < 200 ∧ V 178 p = 1
theorem RM_cl {G : GM} (hG : GOK G) {s : SL} {V : ASt} (h : RM G s V) : cl (nx G s) (wPos V) := by
  intro p hp e he e0
  have hq := qPos_le hG
  rcases (h p hp.1 hp.2.1 hp.2.2).2.2.2.2 e he with k | k | k
  · omega
  · omega
  · exact ⟨k.1, by omega, k.2.2⟩
theorem winsIn_loop {G : GM} (hG : GOK G) {s : SL} {V : ASt} (h : RM G s V) {p N : Int} (hp : wPos V p) (hN : 0 ≤ N ∧ N < 100000) : ∀ (n j : Nat), j ≤ (nx G s p).length → (nx G s p).length - j < n →
    ∃ x, b_M_winsIn_L5 S0 142 p N n V (20 * p + j) = some (x, V) ∧ ((x = 1 ∧ ∃ i : Nat, j ≤ i ∧ i < (nx G s p).length ∧ (((nx G s p).getD i 0 = -1 ∧ N = 1) ∨ (0 ≤ (nx G s p).getD i 0 ∧ V 180 ((nx G s p).getD i 0) = -1 ∧ V 181 ((nx G s p).getD i 0) = N - 1))) ∨
      (x = 0 ∧ ∀ i : Nat, j ≤ i → i < (nx G s p).length → ¬ (((nx G s p).getD i 0 = -1 ∧ N = 1) ∨ (0 ≤ (nx G s p).getD i 0 ∧ V 180 ((nx G s p).getD i 0) = -1 ∧ V 181 ((nx G s p).getD i 0) = N - 1)))) := by
  have hq := qPos_le hG
  obtain ⟨r1, r2, r3, r4, r5⟩ := h p hp.1 hp.2.1 hp.2.2
  intro n
  induction n with
  | zero => intro j h1 h2; omega
  | succ n ih =>
    intro j hj hn
    have hp0 := hp.1
    rw [b_M_winsIn_L5, F_142_51, A_175, gd_in (by omega) (by omega), w32_id (x := 20 * p) (by omega) (by omega), r2, w32_id (x := 20 * p + ((nx G s p).length : Int)) (by omega) (by omega)]
    by_cases c : 20 * p + ((nx G s p).length : Int) ≤ 20 * p + (j : Int)
    · rw [if_pos c]
      exact ⟨0, rfl, Or.inr ⟨rfl, fun i a b => by omega⟩⟩
    rw [if_neg c]
    have hjl : j < (nx G s p).length := by omega
    have e7 := (r4 j hjl).2
    have ihj := ih (j + 1) (by omega) (by omega)
    rw [show (20 * p + ((j + 1 : Nat) : Int)) = 20 * p + (j : Int) + 1 by omega] at ihj
    rw [F_142_53, A_177, gd_in (by omega) (by omega), e7]
    have hrest : (∀ x y : Int, x = y → ((nx G s p).getD j 0 = -1 ∧ N = 1) → x = y) := fun _ _ h _ => h
    have hgo : ¬ (((nx G s p).getD j 0 = -1 ∧ N = 1) ∨ (0 ≤ (nx G s p).getD j 0 ∧ V 180 ((nx G s p).getD j 0) = -1 ∧ V 181 ((nx G s p).getD j 0) = N - 1)) →
      ∃ x, b_M_winsIn_L5 S0 142 p N n V (w32 (20 * p + (j : Int) + 1)) = some (x, V) ∧ ((x = 1 ∧ ∃ i : Nat, j ≤ i ∧ i < (nx G s p).length ∧ (((nx G s p).getD i 0 = -1 ∧ N = 1) ∨ (0 ≤ (nx G s p).getD i 0 ∧ V 180 ((nx G s p).getD i 0) = -1 ∧ V 181 ((nx G s p).getD i 0) = N - 1))) ∨
      (x = 0 ∧ ∀ i : Nat, j ≤ i → i < (nx G s p).length → ¬ (((nx G s p).getD i 0 = -1 ∧ N = 1) ∨ (0 ≤ (nx G s p).getD i 0 ∧ V 180 ((nx G s p).getD i 0) = -1 ∧ V 181 ((nx G s p).getD i 0) = N - 1)))) := by
      intro hno
      rw [w32_id (by omega) (by omega)]
      obtain ⟨x, hx, hh⟩ := ihj
      refine ⟨x, hx, ?_⟩
      rcases hh with ⟨a, i, i1, i2, i3⟩ | ⟨a, i1⟩
      · exact Or.inl ⟨a, i, by omega, i2, i3⟩
      · refine Or.inr ⟨a, fun i ia ib => ?_⟩
        by_cases hij : i = j
        · subst hij; exact hno
        · exact i1 i (by omega) ib
    have hyes : (((nx G s p).getD j 0 = -1 ∧ N = 1) ∨ (0 ≤ (nx G s p).getD j 0 ∧ V 180 ((nx G s p).getD j 0) = -1 ∧ V 181 ((nx G s p).getD j 0) = N - 1)) →
      ∃ x : Int, some ((1 : Int), V) = some (x, V) ∧ ((x = 1 ∧ ∃ i : Nat, j ≤ i ∧ i < (nx G s p).length ∧ (((nx G s p).getD i 0 = -1 ∧ N = 1) ∨ (0 ≤ (nx G s p).getD i 0 ∧ V 180 ((nx G s p).getD i 0) = -1 ∧ V 181 ((nx G s p).getD i 0) = N - 1))) ∨
      (x = 0 ∧ ∀ i : Nat, j ≤ i → i < (nx G s p).length → ¬ (((nx G s p).getD i 0 = -1 ∧ N = 1) ∨ (0 ≤ (nx G s p).getD i 0 ∧ V 180 ((nx G s p).getD i 0) = -1 ∧ V 181 ((nx G s p).getD i 0) = N - 1)))) :=
      fun hy => ⟨1, rfl, Or.inl ⟨rfl, j, Nat.le_refl _, hjl, hy⟩⟩
    have hmem := r5 _ (getD_mem hjl)
    generalize (nx G s p).getD j 0 = e at *
    have hJ : ¬ (e = -1 ∧ N = 1) → ∃ x, b_M_winsIn_J35 S0 (b_M_winsIn_L5 S0 142 p N n) V 142 p N (20 * p + (j : Int)) = some (x, V) ∧ ((x = 1 ∧ ∃ i : Nat, j ≤ i ∧ i < (nx G s p).length ∧ (((nx G s p).getD i 0 = -1 ∧ N = 1) ∨ (0 ≤ (nx G s p).getD i 0 ∧ V 180 ((nx G s p).getD i 0) = -1 ∧ V 181 ((nx G s p).getD i 0) = N - 1))) ∨
      (x = 0 ∧ ∀ i : Nat, j ≤ i → i < (nx G s p).length → ¬ (((nx G s p).getD i 0 = -1 ∧ N = 1) ∨ (0 ≤ (nx G s p).getD i 0 ∧ V 180 ((nx G s p).getD i 0) = -1 ∧ V 181 ((nx G s p).getD i 0) = N - 1)))) := by
      intro hne
      unfold b_M_winsIn_J35
      rw [F_142_53, A_177, gd_in (by omega) (by omega), e7]
      by_cases c1 : e < 0
      · rw [if_pos c1]; exact hgo (by omega)
      rw [if_neg c1, F_142_57, A_180, gd_in (by omega) (by omega)]
      by_cases c2 : V 180 e = -1
      · rw [if_pos c2, F_142_58, A_181, gd_in (by omega) (by omega), w32_id (x := N - 1) (by omega) (by omega)]
        by_cases c3 : V 181 e = N - 1
        · rw [if_pos c3]; exact hyes (Or.inr ⟨by omega, c2, c3⟩)
        · rw [if_neg c3]; exact hgo (by omega)
      · rw [if_neg c2]; exact hgo (by omega)
    by_cases c1 : e = -1
    · rw [if_pos c1]
      by_cases c2 : N = 1
      · rw [if_pos c2]; exact hyes (Or.inl ⟨c1, c2⟩)
      · rw [if_neg c2]; exact hJ (by omega)
    · rw [if_neg c1]; exact hJ (by omega)
theorem M_winsIn {G : GM} (hG : GOK G) {s : SL} {V : ASt} (h : RM G s V) {p N : Int} (hp : wPos V p) (hN : 0 ≤ N ∧ N < 100000) :
    ∃ x, f_M_winsIn S0 V 142 p N = some (x, V) ∧ ((x = 1 ∧ ∃ e, e ∈ nx G s p ∧ ((e = -1 ∧ N = 1) ∨ (0 ≤ e ∧ V 180 e = -1 ∧ V 181 e = N - 1))) ∨ (x = 0 ∧ ∀ e, e ∈ nx G s p → ¬ ((e = -1 ∧ N = 1) ∨ (0 ≤ e ∧ V 180 e = -1 ∧ V 181 e = N - 1)))) := by
  have hl := (h p hp.1 hp.2.1 hp.2.2).2.2.1
  have hp0 := hp.1
  have hp1 := hp.2.1
  obtain ⟨x, hx, hh⟩ := winsIn_loop hG h hp hN FU 0 (Nat.zero_le _) (by rw [FU_v]; omega)
  refine ⟨x, ?_, ?_⟩
  · unfold f_M_winsIn
    rw [gd_t O_142, w32_id (by omega) (by omega)]
    rw [show (20 * p + ((0 : Nat) : Int)) = 20 * p by omega] at hx
    exact hx
  · rcases hh with ⟨a, i, -, i2, i3⟩ | ⟨a, i1⟩
    · exact Or.inl ⟨a, _, getD_mem i2, i3⟩
    · exact Or.inr ⟨a, (all_idx (P := fun e => ¬ ((e = -1 ∧ N = 1) ∨ (0 ≤ e ∧ V 180 e = -1 ∧ V 181 e = N - 1)))).mpr fun j hj => i1 j (Nat.zero_le _) hj⟩
def ceN (t : Int → Int) (e : Int) : Int := if e < 0 then 1 else t e + 1
def LsI (l : List Int) (w t : Int → Int) (N : Int) (j : Nat) (most : Int) : Prop :=
  (∀ i : Nat, j ≤ i → i < l.length → l.getD i 0 ≠ -1 ∧ (0 ≤ l.getD i 0 → w (l.getD i 0) = 1) ∧ ceN t (l.getD i 0) ≤ N) ∧ most ≤ N ∧ (most = N ∨ ∃ i : Nat, j ≤ i ∧ i < l.length ∧ ceN t (l.getD i 0) = N)
theorem LsI_f {l : List Int} {w t : Int → Int} {N : Int} {j : Nat} {most : Int} (hj : j < l.length) (h : LsI l w t N j most) : l.getD j 0 ≠ -1 ∧ (0 ≤ l.getD j 0 → w (l.getD j 0) = 1) ∧ LsI l w t N (j + 1) (if ceN t (l.getD j 0) ≤ most then most else ceN t (l.getD j 0)) := by
  obtain ⟨h1, h2, h3⟩ := h
  have a := h1 j (Nat.le_refl _) hj
  refine ⟨a.1, a.2.1, fun i x y => h1 i (by omega) y, ?_, ?_⟩
  · by_cases c : ceN t (l.getD j 0) ≤ most
    · rw [if_pos c]; exact h2
    · rw [if_neg c]; exact a.2.2
  · by_cases c : ceN t (l.getD j 0) ≤ most
    · rw [if_pos c]
      rcases h3 with h3 | ⟨i, i1, i2, i3⟩
      · exact Or.inl h3
      · by_cases hij : i = j
        · subst hij; exact Or.inl (by omega)
        · exact Or.inr ⟨i, by omega, i2, i3⟩
    · rw [if_neg c]
      rcases h3 with h3 | ⟨i, i1, i2, i3⟩
      · omega
      · by_cases hij : i = j
        · subst hij; exact Or.inl i3
        · exact Or.inr ⟨i, by omega, i2, i3⟩
theorem LsI_b {l : List Int} {w t : Int → Int} {N : Int} {j : Nat} {most : Int} (hj : j < l.length) (a1 : l.getD j 0 ≠ -1) (a2 : 0 ≤ l.getD j 0 → w (l.getD j 0) = 1) (h : LsI l w t N (j + 1) (if ceN t (l.getD j 0) ≤ most then most else ceN t (l.getD j 0))) : LsI l w t N j most := by
  obtain ⟨h1, h2, h3⟩ := h
  by_cases c : ceN t (l.getD j 0) ≤ most
  · rw [if_pos c] at h2 h3
    refine ⟨fun i x y => ?_, h2, ?_⟩
    · by_cases hij : i = j
      · subst hij; exact ⟨a1, a2, by omega⟩
      · exact h1 i (by omega) y
    · rcases h3 with h3 | ⟨i, i1, i2, i3⟩
      · exact Or.inl h3
      · exact Or.inr ⟨i, by omega, i2, i3⟩
  · rw [if_neg c] at h2 h3
    refine ⟨fun i x y => ?_, by omega, ?_⟩
    · by_cases hij : i = j
      · subst hij; exact ⟨a1, a2, by omega⟩
      · exact h1 i (by omega) y
    · rcases h3 with h3 | ⟨i, i1, i2, i3⟩
      · exact Or.inr ⟨j, Nat.le_refl _, hj, h3⟩
      · exact Or.inr ⟨i, by omega, i2, i3⟩
theorem losesIn_loop {G : GM} (hG : GOK G) {s : SL} {V : ASt} (h : RM G s V) {p N : Int} (hp : wPos V p) (hb : ∀ e, wPos V e → -1 ≤ V 181 e ∧ V 181 e < 100000) : ∀ (n j : Nat) (most : Int), j ≤ (nx G s p).length → (nx G s p).length - j < n →
    ∃ x, b_M_losesIn_L8 S0 142 p N n V most (20 * p + j) = some (x, V) ∧ ((x = 1 ∧ nx G s p ≠ [] ∧ LsI (nx G s p) (V 180) (V 181) N j most) ∨ (x = 0 ∧ ¬ (nx G s p ≠ [] ∧ LsI (nx G s p) (V 180) (V 181) N j most))) := by
  have hq := qPos_le hG
  obtain ⟨r1, r2, r3, r4, r5⟩ := h p hp.1 hp.2.1 hp.2.2
  intro n
  induction n with
  | zero => intro j most h1 h2; omega
  | succ n ih =>
    intro j most hj hn
    have hp0 := hp.1
    rw [b_M_losesIn_L8, F_142_51, A_175, gd_in (by omega) (by omega), w32_id (x := 20 * p) (by omega) (by omega), r2, w32_id (x := 20 * p + ((nx G s p).length : Int)) (by omega) (by omega)]
    by_cases c : 20 * p + ((nx G s p).length : Int) ≤ 20 * p + (j : Int)
    · rw [if_pos c]
      by_cases c1 : ((nx G s p).length : Int) ≤ 0
      · rw [if_pos c1]
        exact ⟨0, rfl, Or.inr ⟨rfl, fun hh => hh.1 (List.length_eq_zero_iff.mp (by omega))⟩⟩
      · rw [if_neg c1]
        by_cases c2 : most = N
        · rw [if_pos c2]
          exact ⟨1, rfl, Or.inl ⟨rfl, fun hh => by rw [hh] at c1; exact c1 (Int.le_refl _), fun i a b => by omega, by omega, Or.inl c2⟩⟩
        · rw [if_neg c2]
          refine ⟨0, rfl, Or.inr ⟨rfl, fun hh => ?_⟩⟩
          rcases hh.2.2.2 with q | ⟨i, i1, i2, -⟩
          · exact c2 q
          · omega
    rw [if_neg c]
    have hjl : j < (nx G s p).length := by omega
    have hne : nx G s p ≠ [] := fun hh => by rw [hh] at hjl; exact Nat.not_lt_zero _ hjl
    have e7 := (r4 j hjl).2
    have hmem := r5 _ (getD_mem hjl)
    have ihj := fun mo => ih (j + 1) mo (by omega) (by omega)
    rw [show (20 * p + ((j + 1 : Nat) : Int)) = 20 * p + (j : Int) + 1 by omega] at ihj
    have hf := LsI_f (w := V 180) (t := V 181) (N := N) (most := most) hjl
    have hbk := LsI_b (w := V 180) (t := V 181) (N := N) (most := most) hjl
    rw [F_142_53, A_177, gd_in (by omega) (by omega), e7]
    generalize (nx G s p).getD j 0 = e at *
    have hno : ¬ (LsI (nx G s p) (V 180) (V 181) N j most) → ∃ x, some ((0 : Int), V) = some (x, V) ∧ ((x = 1 ∧ nx G s p ≠ [] ∧ LsI (nx G s p) (V 180) (V 181) N j most) ∨ (x = 0 ∧ ¬ (nx G s p ≠ [] ∧ LsI (nx G s p) (V 180) (V 181) N j most))) := fun q => ⟨0, rfl, Or.inr ⟨rfl, fun hh => q hh.2⟩⟩
    by_cases c1 : e = -1
    · rw [if_pos c1]; exact hno fun q => (hf q).1 c1
    rw [if_neg c1]
    have hJ : ∀ mo : Int, ceN (V 181) e = mo → (0 ≤ e → V 180 e = 1) → ∃ x, b_M_losesIn_J91 S0 (b_M_losesIn_L8 S0 142 p N n) V 142 p N most (20 * p + (j : Int)) mo = some (x, V) ∧ ((x = 1 ∧ nx G s p ≠ [] ∧ LsI (nx G s p) (V 180) (V 181) N j most) ∨ (x = 0 ∧ ¬ (nx G s p ≠ [] ∧ LsI (nx G s p) (V 180) (V 181) N j most))) := by
      intro mo hmo hw
      rw [hmo] at hf hbk
      unfold b_M_losesIn_J91
      rw [w32_id (x := 20 * p + (j : Int) + 1) (by omega) (by omega)]
      by_cases c3 : mo ≤ most
      · rw [if_pos c3]
        rw [if_pos c3] at hf hbk
        obtain ⟨x, hx, hh⟩ := ihj most
        refine ⟨x, hx, ?_⟩
        rcases hh with ⟨y1, y2, y3⟩ | ⟨y1, y2⟩
        · exact Or.inl ⟨y1, y2, hbk c1 hw y3⟩
        · exact Or.inr ⟨y1, fun z => y2 ⟨z.1, (hf z.2).2.2⟩⟩
      · rw [if_neg c3]
        rw [if_neg c3] at hf hbk
        obtain ⟨x, hx, hh⟩ := ihj mo
        refine ⟨x, hx, ?_⟩
        rcases hh with ⟨y1, y2, y3⟩ | ⟨y1, y2⟩
        · exact Or.inl ⟨y1, y2, hbk c1 hw y3⟩
        · exact Or.inr ⟨y1, fun z => y2 ⟨z.1, (hf z.2).2.2⟩⟩
    have hJ2 : (0 ≤ e → V 180 e = 1) → ∃ x, b_M_losesIn_J63 S0 (b_M_losesIn_L8 S0 142 p N n) V 142 p N most (20 * p + (j : Int)) = some (x, V) ∧ ((x = 1 ∧ nx G s p ≠ [] ∧ LsI (nx G s p) (V 180) (V 181) N j most) ∨ (x = 0 ∧ ¬ (nx G s p ≠ [] ∧ LsI (nx G s p) (V 180) (V 181) N j most))) := by
      intro hw
      unfold b_M_losesIn_J63
      rw [F_142_53, A_177, gd_in (by omega) (by omega), e7]
      by_cases c4 : e < 0
      · rw [if_pos c4]
        exact hJ 1 (by unfold ceN; rw [if_pos c4]) hw
      · rw [if_neg c4, F_142_58, A_181, gd_in (by omega) (by omega)]
        have := hb e ⟨by omega, by omega, by omega⟩
        rw [w32_id (x := V 181 e + 1) (by omega) (by omega)]
        exact hJ (V 181 e + 1) (by unfold ceN; rw [if_neg c4]) hw
    by_cases c2 : e < 0
    · rw [if_pos c2]; exact hJ2 (by omega)
    rw [if_neg c2, F_142_57, A_180, gd_in (by omega) (by omega)]
    by_cases c3 : V 180 e = 1
    · rw [if_pos c3]; exact hJ2 (fun _ => c3)
    · rw [if_neg c3]; exact hno fun q => c3 ((hf q).2.1 (by omega))
theorem M_losesIn {G : GM} (hG : GOK G) {s : SL} {V : ASt} (h : RM G s V) {p N : Int} (hp : wPos V p) (hN : 1 ≤ N) (hb : ∀ e, wPos V e → -1 ≤ V 181 e ∧ V 181 e < 100000) :
    ∃ x, f_M_losesIn S0 V 142 p N = some (x, V) ∧ ((x = 1 ∧ nx G s p ≠ [] ∧ (∀ e, e ∈ nx G s p → e ≠ -1 ∧ (0 ≤ e → V 180 e = 1) ∧ ceN (V 181) e ≤ N) ∧ (∃ e, e ∈ nx G s p ∧ ceN (V 181) e = N)) ∨
      (x = 0 ∧ ¬ (nx G s p ≠ [] ∧ (∀ e, e ∈ nx G s p → e ≠ -1 ∧ (0 ≤ e → V 180 e = 1) ∧ ceN (V 181) e ≤ N) ∧ (∃ e, e ∈ nx G s p ∧ ceN (V 181) e = N)))) := by
  have hl := (h p hp.1 hp.2.1 hp.2.2).2.2.1
  have hp0 := hp.1
  have hp1 := hp.2.1
  obtain ⟨x, hx, hh⟩ := losesIn_loop hG h (N := N) hp hb FU 0 0 (Nat.zero_le _) (by rw [FU_v]; omega)
  refine ⟨x, ?_, ?_⟩
  · unfold f_M_losesIn
    rw [gd_t O_142, w32_id (by omega) (by omega)]
    rw [show (20 * p + ((0 : Nat) : Int)) = 20 * p by omega] at hx
    exact hx
  · have e1 := all_idx (l := nx G s p) (P := fun e => e ≠ -1 ∧ (0 ≤ e → V 180 e = 1) ∧ ceN (V 181) e ≤ N)
    have e2 := ex_idx (l := nx G s p) (P := fun e => ceN (V 181) e = N)
    rcases hh with ⟨a, b, c, -, d⟩ | ⟨a, b⟩
    · refine Or.inl ⟨a, b, e1.mpr fun j hj => c j (Nat.zero_le _) hj, ?_⟩
      rcases d with d | ⟨i, -, i2, i3⟩
      · omega
      · exact e2.mpr ⟨i, i2, i3⟩
    · refine Or.inr ⟨a, fun q => b ⟨q.1, fun i _ hi => e1.mp q.2.1 i hi, by omega, ?_⟩⟩
      obtain ⟨i, i1, i2⟩ := e2.mp q.2.2
      exact Or.inr ⟨i, Nat.zero_le _, i1, i2⟩
-- ---- round by round
def UD (m : Int → List Int) (w t : Int → Int) (K p : Int) : Prop :=
  (∀ e, e ∈ m p → (e = -1 → K < 1) ∧ (0 ≤ e → w e = -1 → K < t e + 1)) ∧ (∃ e, e ∈ m p ∧ (e = -1 ∨ (0 ≤ e ∧ (w e ≠ 1 ∨ K < t e + 1)) ∨ (e < 0 ∧ K < 1)))
def RI (m : Int → List Int) (u : Int) (D : Int → Prop) (w t : Int → Int) (N : Int) (pr : Int → Prop) : Prop :=
  ∀ p, D p → (m p = [] → w p = u ∧ t p = if u = 0 then -1 else 0) ∧ (m p ≠ [] →
    (w p = 1 ∧ 1 ≤ t p ∧ t p ≤ N ∧ (∃ e, e ∈ m p ∧ ((e = -1 ∧ t p = 1) ∨ (0 ≤ e ∧ w e = -1 ∧ t p = t e + 1))) ∧ (∀ e, e ∈ m p → (e = -1 → t p ≤ 1) ∧ (0 ≤ e → w e = -1 → t p ≤ t e + 1))) ∨
    (w p = -1 ∧ 1 ≤ t p ∧ t p ≤ N ∧ (∃ e, e ∈ m p ∧ ((e < 0 ∧ t p = 1) ∨ (0 ≤ e ∧ t p = t e + 1))) ∧ (∀ e, e ∈ m p → e ≠ -1 ∧ (0 ≤ e → w e = 1 ∧ t e + 1 ≤ t p))) ∨
    (w p = 0 ∧ t p = -1 ∧ UD m w t (N - 1) p ∧ (pr p → UD m w t N p)))
theorem UD_up {m : Int → List Int} {w t : Int → Int} {K p q x N : Int} (h : UD m w t K q) (hK : K ≤ N) : UD m (upI w p x) (upI t p N) K q := by
  obtain ⟨h1, e, he, h2⟩ := h
  refine ⟨fun d hd => ⟨(h1 d hd).1, fun d0 => ?_⟩, e, he, ?_⟩
  · by_cases c : d = p
    · subst c; rw [upI_s, upI_s]; intro _; omega
    · rw [upI_n _ _ c, upI_n _ _ c]; exact (h1 d hd).2 d0
  · rcases h2 with h2 | h2 | h2
    · exact Or.inl h2
    · refine Or.inr (Or.inl ⟨h2.1, ?_⟩)
      by_cases c : e = p
      · subst c; rw [upI_s, upI_s]; right; omega
      · rw [upI_n _ _ c, upI_n _ _ c]; exact h2.2
    · exact Or.inr (Or.inr h2)
theorem RI_none {m : Int → List Int} {u : Int} {D : Int → Prop} {w t : Int → Int} {N : Int} {pr : Int → Prop} {p : Int} (h : RI m u D w t N pr) (hn : w p = 0 → m p ≠ [] → UD m w t N p) : RI m u D w t N (fun q => pr q ∨ q = p) := by
  intro q hq
  refine ⟨(h q hq).1, fun hm => ?_⟩
  rcases (h q hq).2 hm with a | a | a
  · exact Or.inl a
  · exact Or.inr (Or.inl a)
  · refine Or.inr (Or.inr ⟨a.1, a.2.1, a.2.2.1, fun c => ?_⟩)
    rcases c with c | c
    · exact a.2.2.2 c
    · subst c; exact hn a.1 hm
theorem RI_up {m : Int → List Int} {u : Int} {D : Int → Prop} {w t : Int → Int} {N x : Int} {pr : Int → Prop} {p : Int} (h : RI m u D w t N pr) (hp0 : w p = 0) (hmp : m p ≠ []) (hN : 1 ≤ N) (hx : x = 1 ∨ x = -1)
    (hp : (x = 1 ∧ (∃ e, e ∈ m p ∧ ((e = -1 ∧ N = 1) ∨ (0 ≤ e ∧ w e = -1 ∧ N = t e + 1))) ∧ (∀ e, e ∈ m p → (e = -1 → N ≤ 1) ∧ (0 ≤ e → w e = -1 → N ≤ t e + 1))) ∨
      (x = -1 ∧ (∃ e, e ∈ m p ∧ ((e < 0 ∧ N = 1) ∨ (0 ≤ e ∧ N = t e + 1))) ∧ (∀ e, e ∈ m p → e ≠ -1 ∧ (0 ≤ e → w e = 1 ∧ t e + 1 ≤ N)))) : RI m u D (upI w p x) (upI t p N) N (fun q => pr q ∨ q = p) := by
  intro q hq
  by_cases hqp : q = p
  · subst hqp
    refine ⟨fun e => absurd e hmp, fun _ => ?_⟩
    rw [upI_s, upI_s]
    rcases hp with ⟨a, ⟨e, he, b⟩, c⟩ | ⟨a, ⟨e, he, b⟩, c⟩
    · refine Or.inl ⟨a, hN, Int.le_refl _, ⟨e, he, ?_⟩, fun d hd => ⟨(c d hd).1, fun d0 hd2 => ?_⟩⟩
      · rcases b with b | b
        · exact Or.inl b
        · have : e ≠ q := fun z => by rw [z] at b; omega
          rw [upI_n _ _ this, upI_n _ _ this]; exact Or.inr b
      · by_cases z : d = q
        · subst z; rw [upI_s]; omega
        · rw [upI_n _ _ z] at hd2 ⊢; exact (c d hd).2 d0 hd2
    · refine Or.inr (Or.inl ⟨a, hN, Int.le_refl _, ⟨e, he, ?_⟩, fun d hd => ⟨(c d hd).1, fun d0 => ?_⟩⟩)
      · rcases b with b | b
        · exact Or.inl b
        · have : e ≠ q := fun z => by have := (c e he).2 b.1; rw [z] at this; omega
          rw [upI_n _ _ this]; exact Or.inr b
      · have : d ≠ q := fun z => by have := (c d hd).2 d0; rw [z] at this; omega
        rw [upI_n _ _ this, upI_n _ _ this]; exact (c d hd).2 d0
  · rw [upI_n _ _ hqp, upI_n _ _ hqp]
    refine ⟨(h q hq).1, fun hm => ?_⟩
    rcases (h q hq).2 hm with ⟨a1, a2, a3, ⟨e, he, a4⟩, a5⟩ | ⟨a1, a2, a3, ⟨e, he, a4⟩, a5⟩ | ⟨a1, a2, a3, a4⟩
    · refine Or.inl ⟨a1, a2, a3, ⟨e, he, ?_⟩, fun d hd => ⟨(a5 d hd).1, fun d0 hd2 => ?_⟩⟩
      · rcases a4 with b | b
        · exact Or.inl b
        · have : e ≠ p := fun z => by rw [z] at b; omega
          rw [upI_n _ _ this, upI_n _ _ this]; exact Or.inr b
      · by_cases z : d = p
        · subst z; rw [upI_s]; omega
        · rw [upI_n _ _ z] at hd2 ⊢; exact (a5 d hd).2 d0 hd2
    · refine Or.inr (Or.inl ⟨a1, a2, a3, ⟨e, he, ?_⟩, fun d hd => ⟨(a5 d hd).1, fun d0 => ?_⟩⟩)
      · rcases a4 with b | b
        · exact Or.inl b
        · have : e ≠ p := fun z => by have := (a5 e he).2 b.1; rw [z] at this; omega
          rw [upI_n _ _ this]; exact Or.inr b
      · have : d ≠ p := fun z => by have := (a5 d hd).2 d0; rw [z] at this; omega
        rw [upI_n _ _ this, upI_n _ _ this]; exact (a5 d hd).2 d0
    · refine Or.inr (Or.inr ⟨a1, a2, UD_up a3 (by omega), fun c => ?_⟩)
      rcases c with c | c
      · exact UD_up (a4 c) (Int.le_refl _)
      · exact absurd c hqp
theorem RI_next {m : Int → List Int} {u : Int} {D : Int → Prop} {w t : Int → Int} {N : Int} {pr : Int → Prop} (h : RI m u D w t N pr) (hall : ∀ p, D p → pr p) : RI m u D w t (N + 1) (fun _ => False) := by
  intro q hq
  refine ⟨(h q hq).1, fun hm => ?_⟩
  rcases (h q hq).2 hm with ⟨a1, a2, a3, a4⟩ | ⟨a1, a2, a3, a4⟩ | ⟨a1, a2, a3, a4⟩
  · exact Or.inl ⟨a1, a2, by omega, a4⟩
  · exact Or.inr (Or.inl ⟨a1, a2, by omega, a4⟩)
  · refine Or.inr (Or.inr ⟨a1, a2, ?_, fun c => c.elim⟩)
    rw [show N + 1 - 1 = N by omega]
    exact a4 (hall q hq)
theorem RI_end {m : Int → List Int} {u : Int} {D : Int → Prop} {w t : Int → Int} {N : Int} {pr : Int → Prop} (h : RI m u D w t N pr) (hall : ∀ p, D p → pr p) (hc : cl m D) (hN : 1 ≤ N) (hlt : ∀ p, D p → t p < N) : Sol m u D w t := by
  intro q hq
  refine ⟨(h q hq).1, fun hm => ?_⟩
  rcases (h q hq).2 hm with ⟨a1, a2, a3, a4⟩ | ⟨a1, a2, a3, a4⟩ | ⟨a1, a2, a3, a4⟩
  · exact Or.inl ⟨a1, a2, a4⟩
  · exact Or.inr (Or.inl ⟨a1, a2, a4⟩)
  · obtain ⟨b1, e, he, b2⟩ := a4 (hall q hq)
    refine Or.inr (Or.inr ⟨a1, a2, fun d hd => ⟨fun z => by have := (b1 d hd).1 z; omega, fun d0 z => ?_⟩, e, he, ?_⟩)
    · have := (b1 d hd).2 d0 z
      have := hlt d (hc q hq d hd d0)
      omega
    · rcases b2 with b2 | b2 | b2
      · have := (b1 e he).1 b2; omega
      · have := hlt e (hc q hq e he b2.1)
        omega
      · omega
theorem RI_t {m : Int → List Int} {u : Int} {D : Int → Prop} {w t : Int → Int} {N : Int} {pr : Int → Prop} (h : RI m u D w t N pr) (hN : 0 ≤ N) {p : Int} (hp : D p) : -1 ≤ t p ∧ t p ≤ N ∧ (w p = 0 → t p = -1) := by
  by_cases hm : m p = []
  · have := (h p hp).1 hm
    by_cases hu : u = 0
    · rw [if_pos hu] at this; omega
    · rw [if_neg hu] at this; omega
  · rcases (h p hp).2 hm with ⟨a1, a2, a3, -⟩ | ⟨a1, a2, a3, -⟩ | ⟨a1, a2, -⟩ <;> omega
theorem RI_mono {m : Int → List Int} {u : Int} {D : Int → Prop} {w t : Int → Int} {N : Int} {pr pr' : Int → Prop} (h : RI m u D w t N pr) (hh : ∀ q, D q → pr' q → pr q) : RI m u D w t N pr' := by
  intro q hq
  refine ⟨(h q hq).1, fun hm => ?_⟩
  rcases (h q hq).2 hm with a | a | ⟨a1, a2, a3, a4⟩
  · exact Or.inl a
  · exact Or.inr (Or.inl a)
  · exact Or.inr (Or.inr ⟨a1, a2, a3, fun c => a4 (hh q hq c)⟩)
theorem RM_fr {G : GM} {s : SL} {V W : ASt} (h : ∀ a, 175 ≤ a → a ≤ 178 → W a = V a) (g : RM G s V) : RM G s W := by
  unfold RM at *
  rw [h 175 (by decide) (by decide), h 176 (by decide) (by decide), h 177 (by decide) (by decide), h 178 (by decide) (by decide)]
  exact g
theorem wPos_fr {V W : ASt} (h : W 178 = V 178) (p : Int) : wPos W p ↔ wPos V p := by unfold wPos; rw [h]
/-- U is V but for the rows of worths -/
def frW (V U : ASt) : Prop := ∀ a, a ≠ 180 → a ≠ 181 → U a = V a
theorem wo_J150 {K74 K82 : ASt → Int → Int → Option (Int × ASt)} {W : ASt} {x1 N k p x : Int} {Q : Int → ASt → Prop} (hp : 0 ≤ p ∧ p < 200) (hx : x ≠ 0) (h : ∀ W2 : ASt, W2 180 = upI (W 180) p x → W2 181 = upI (W 181) p N → frW W W2 → Tr (K82 W2 1 (w32 (k + 1))) Q) : Tr (b_M_worths_J150 S0 K74 K82 W 142 x1 N k p x) Q := by
  unfold b_M_worths_J150
  rw [F_142_57, F_142_58, A_180, if_neg hx, gd_in hp.1 hp.2]
  refine Tr_set (fun V1 e1 n1 => ?_)
  rw [A_181, gd_in hp.1 hp.2]
  refine Tr_set (fun V2 e2 n2 => ?_)
  exact h V2 (by rw [n2 180 (by decide), e1]) (by rw [e2, n1 181 (by decide)]) (fun a a1 a2 => by rw [n2 a a2, n1 a a1])
theorem wo_L82 {G : GM} (hG : GOK G) {s : SL} {V : ASt} {u : Int} (h : RM G s V) (hQ : QI G V) {K74 : ASt → Int → Int → Option (Int × ASt)} {Q : Int → ASt → Prop} {N : Int} (hN : 1 ≤ N ∧ N < 99999)
    (hK : ∀ (W : ASt) (x1 : Int), frW V W → RI (nx G s) u (wPos V) (W 180) (W 181) N (fun _ => True) → ((x1 = 0 ∧ ∀ p, wPos V p → W 181 p < N) ∨ (x1 = 1 ∧ ∃ p, wPos V p ∧ W 181 p = N)) → (∀ K, 1 ≤ K → K < N → ∃ p, wPos V p ∧ W 181 p = K) → Tr (K74 W x1 (w32 (N + 1))) Q) :
    ∀ (n : Nat) (k : Int) (W : ASt) (x1 : Int), 0 ≤ k → k ≤ V 142 56 → V 142 56 - k < n → frW V W → RI (nx G s) u (wPos V) (W 180) (W 181) N (fun q => ∃ i, 0 ≤ i ∧ i < k ∧ V 179 i = q) →
      ((x1 = 0 ∧ ∀ p, wPos V p → W 181 p < N) ∨ (x1 = 1 ∧ ∃ p, wPos V p ∧ W 181 p = N)) → (∀ K, 1 ≤ K → K < N → ∃ p, wPos V p ∧ W 181 p = K) → Tr (b_M_worths_L82 S0 K74 142 N n W x1 k) Q := by
  have hq := qPos_le hG
  intro n
  induction n with
  | zero => intro k W x1 h1 h2 h3; omega
  | succ n ih =>
    intro k W x1 k0 k1 hn fW hR hm hH
    rw [b_M_worths_L82, fW 142 (by decide) (by decide), F_142_55, F_142_57, F_142_51]
    have h200 := hQ.2.1
    refine Tr_if (fun c => ?_) (fun c => ?_)
    · refine hK W x1 fW (RI_mono hR fun q hq' _ => ?_) hm hH
      rcases hQ.2.2.2.2 q hq'.1 hq'.2.1 with z | ⟨-, i, i0, i1, i2⟩
      · have := hq'.2.2; omega
      · exact ⟨i, i0, by omega, i2⟩
    have hi := hQ.2.2.1 k k0 (by omega)
    rw [A_179, gd_in (by omega) (by omega), fW 179 (by decide) (by decide), A_180]
    have hw32 : w32 (k + 1) = k + 1 := w32_id (by omega) (by omega)
    have hpr : ∀ p, p = V 179 k → ∀ q, (∃ i, 0 ≤ i ∧ i < k + 1 ∧ V 179 i = q) → ((∃ i, 0 ≤ i ∧ i < k ∧ V 179 i = q) ∨ q = p) := by
      rintro p hp q ⟨i, i0, i1, i2⟩
      by_cases z : i = k
      · subst z; exact Or.inr (by rw [hp, i2])
      · exact Or.inl ⟨i, i0, by omega, i2⟩
    generalize hpe : V 179 k = p at *
    have hpr' := hpr p rfl
    have hp : wPos V p := ⟨hi.1, by omega, hi.2.2⟩
    have RMW : RM G s W := RM_fr (fun a a1 a2 => fW a (by omega) (by omega)) h
    have e178 : W 178 = V 178 := fW 178 (by decide) (by decide)
    have hpW : wPos W p := (wPos_fr e178 p).mpr hp
    have hrow := (h p hp.1 hp.2.1 hp.2.2)
    rw [gd_in (by omega) (by omega), A_175, gd_in (by omega) (by omega), fW 175 (by decide) (by decide), hrow.2.1, hw32]
    have hgo : (W 180 p = 0 → nx G s p ≠ [] → UD (nx G s) (W 180) (W 181) N p) → Tr (b_M_worths_L82 S0 K74 142 N n W x1 (k + 1)) Q := fun hh =>
      ih (k + 1) W x1 (by omega) (by omega) (by omega) fW (RI_mono (RI_none hR hh) fun q _ z => hpr' q z) hm hH
    refine Tr_if (fun c1 => ?_) (fun c1 => ?_)
    · refine Tr_if (fun c2 => ?_) (fun c2 => ?_)
      · refine hgo fun _ z => absurd (List.length_eq_zero_iff.mp (by omega)) z
      have hne : nx G s p ≠ [] := fun z => by rw [z] at c2; exact c2 rfl
      have hud : UD (nx G s) (W 180) (W 181) (N - 1) p := by
        rcases (hR p hp).2 hne with a | a | a
        · omega
        · omega
        · exact a.2.2.1
      have ht0 : W 181 p = -1 := (RI_t hR (by omega) hp).2.2 c1
      have hup : ∀ x, x = 1 ∨ x = -1 → ((x = 1 ∧ (∃ e, e ∈ nx G s p ∧ ((e = -1 ∧ N = 1) ∨ (0 ≤ e ∧ W 180 e = -1 ∧ N = W 181 e + 1))) ∧ (∀ e, e ∈ nx G s p → (e = -1 → N ≤ 1) ∧ (0 ≤ e → W 180 e = -1 → N ≤ W 181 e + 1))) ∨
      (x = -1 ∧ (∃ e, e ∈ nx G s p ∧ ((e < 0 ∧ N = 1) ∨ (0 ≤ e ∧ N = W 181 e + 1))) ∧ (∀ e, e ∈ nx G s p → e ≠ -1 ∧ (0 ≤ e → W 180 e = 1 ∧ W 181 e + 1 ≤ N)))) → Tr (b_M_worths_J150 S0 K74 (b_M_worths_L82 S0 K74 142 N n) W 142 x1 N k p x) Q := fun x hx hcond =>
        wo_J150 ⟨hp.1, hp.2.1⟩ (by omega) fun W2 w1 w2 w3 => by
          rw [hw32]
          refine ih (k + 1) W2 1 (by omega) (by omega) (by omega) (fun a a1 a2 => by rw [w3 a a1 a2, fW a a1 a2]) ?_ (Or.inr ⟨rfl, p, hp, by rw [w2, upI_s]⟩) ?_
          · rw [w1, w2]
            exact RI_mono (RI_up hR c1 hne hN.1 hx hcond) fun q _ z => hpr' q z
          · intro K K1 K2
            obtain ⟨q, q1, q2⟩ := hH K K1 K2
            refine ⟨q, q1, ?_⟩
            rw [w2, upI_n _ _ (fun z => by rw [z] at q2; omega)]
            exact q2
      obtain ⟨x, hx, hwin⟩ := M_winsIn hG RMW (N := N) hpW ⟨by omega, by omega⟩
      refine Tr_bq hx ?_
      rcases hwin with ⟨z1, e, he, z2⟩ | ⟨z1, z2⟩
      · rw [z1]
        refine Tr_f (by decide) ?_
        refine hup 1 (Or.inl rfl) (Or.inl ⟨rfl, ⟨e, he, ?_⟩, fun d hd => ⟨fun y => ?_, fun d0 y => ?_⟩⟩)
        · rcases z2 with z2 | z2
          · exact Or.inl z2
          · exact Or.inr ⟨z2.1, z2.2.1, by omega⟩
        · have := (hud.1 d hd).1 y; omega
        · have := (hud.1 d hd).2 d0 y; omega
      · rw [z1]
        refine Tr_t rfl ?_
        have hb : ∀ e, wPos W e → -1 ≤ W 181 e ∧ W 181 e < 100000 := fun e he => by
          have := RI_t hR (by omega) ((wPos_fr e178 e).mp he)
          omega
        obtain ⟨y, hy, hlose⟩ := M_losesIn hG RMW (N := N) hpW hN.1 hb
        refine Tr_bq hy ?_
        have hce : ∀ e, 0 ≤ e → ceN (W 181) e = W 181 e + 1 := fun e e0 => by unfold ceN; rw [if_neg (by omega)]
        have hce2 : ∀ e, e < 0 → ceN (W 181) e = 1 := fun e e0 => by unfold ceN; rw [if_pos e0]
        rcases hlose with ⟨y1, -, y2, e, he, y3⟩ | ⟨y1, y2⟩
        · rw [y1]
          refine Tr_f (by decide) ?_
          refine hup (-1) (Or.inr rfl) (Or.inr ⟨rfl, ⟨e, he, ?_⟩, fun d hd => ⟨(y2 d hd).1, fun d0 => ?_⟩⟩)
          · by_cases e0 : e < 0
            · rw [hce2 e e0] at y3; exact Or.inl ⟨e0, by omega⟩
            · rw [hce e (by omega)] at y3; exact Or.inr ⟨by omega, by omega⟩
          · have := y2 d hd
            rw [hce d d0] at this
            exact ⟨this.2.1 d0, this.2.2⟩
        · rw [y1]
          refine Tr_t rfl ?_
          unfold b_M_worths_J150
          rw [if_pos rfl, hw32]
          refine hgo fun _ _ => ?_
          obtain ⟨u1, u2⟩ := hud
          have v1 : ∀ e, e ∈ nx G s p → (e = -1 → N < 1) ∧ (0 ≤ e → W 180 e = -1 → N < W 181 e + 1) := by
            intro e he
            have a := u1 e he
            have b := z2 e he
            refine ⟨fun q => ?_, fun e0 q => ?_⟩
            · have := a.1 q
              exact absurd (Or.inl ⟨q, by omega⟩) b
            · have := a.2 e0 q
              by_cases r : W 181 e = N - 1
              · exact absurd (Or.inr ⟨e0, q, r⟩) b
              · omega
          refine ⟨v1, ?_⟩
          refine Classical.byContradiction fun hno => ?_
          have hall : ∀ e, e ∈ nx G s p → e ≠ -1 ∧ (0 ≤ e → W 180 e = 1 ∧ W 181 e + 1 ≤ N) := by
            intro e he
            refine ⟨fun q => hno ⟨e, he, Or.inl q⟩, fun e0 => ⟨Classical.byContradiction fun q => hno ⟨e, he, Or.inr (Or.inl ⟨e0, Or.inl q⟩)⟩, ?_⟩⟩
            refine Classical.byContradiction fun q => hno ⟨e, he, Or.inr (Or.inl ⟨e0, Or.inr (by omega)⟩)⟩
          have hle : ∀ e, e ∈ nx G s p → ceN (W 181) e ≤ N - 1 := by
            intro e he
            have h1 : ceN (W 181) e ≤ N := by
              by_cases e0 : e < 0
              · rw [hce2 e e0]; omega
              · rw [hce e (by omega)]; exact ((hall e he).2 (by omega)).2
            by_cases h2 : ceN (W 181) e = N
            · refine absurd ⟨hne, fun d hd => ⟨(hall d hd).1, fun d0 => ((hall d hd).2 d0).1, ?_⟩, e, he, h2⟩ y2
              by_cases d0 : d < 0
              · rw [hce2 d d0]; omega
              · rw [hce d (by omega)]; exact ((hall d hd).2 (by omega)).2
            · omega
          obtain ⟨e, he, u3⟩ := u2
          have := hle e he
          have := hall e he
          rcases u3 with u3 | u3 | u3
          · omega
          · rw [hce e u3.1] at *
            have := this.2 u3.1
            omega
          · rw [hce2 e u3.1] at *
            omega
    · exact hgo fun z => absurd z c1
theorem wo_L74 {G : GM} (hG : GOK G) {s : SL} {V : ASt} {u : Int} (h : RM G s V) (hQ : QI G V) : ∀ (n : Nat) (N : Int) (W : ASt) (x1 : Int), 1 ≤ N → 203 - N < n → frW V W → RI (nx G s) u (wPos V) (W 180) (W 181) N (fun _ => False) → (∀ p, wPos V p → W 181 p < N) →
      (x1 = 0 ∧ N ≤ 202 ∧ Sol (nx G s) u (wPos V) (W 180) (W 181)) ∨ (x1 = 1 ∧ ∀ K, 1 ≤ K → K < N → ∃ p, wPos V p ∧ W 181 p = K) →
      Tr (b_M_worths_L74 S0 142 n W x1 N) (fun _ U => frW V U ∧ Sol (nx G s) u (wPos V) (U 180) (U 181)) := by
  intro n
  have pig : ∀ (N : Int) (W : ASt), 1 ≤ N → (∀ K, 1 ≤ K → K < N → ∃ p, wPos V p ∧ W 181 p = K) → N ≤ 201 := by
    intro N W hN hH
    have := pigeonI (m := 200) (n := N - 1) (f := fun i => Classical.epsilon fun p => wPos V p ∧ W 181 p = i + 1) (by omega) (by omega) (fun i a b => by
      have := (Classical.epsilon_spec (hH (i + 1) (by omega) (by omega))).1
      exact ⟨this.1, this.2.1⟩) (fun i j a b c d e => by
      have q1 := (Classical.epsilon_spec (hH (i + 1) (by omega) (by omega))).2
      have q2 := (Classical.epsilon_spec (hH (j + 1) (by omega) (by omega))).2
      have e' : Classical.epsilon (fun p => wPos V p ∧ W 181 p = i + 1) = Classical.epsilon (fun p => wPos V p ∧ W 181 p = j + 1) := e
      rw [e'] at q1
      omega)
    omega
  induction n with
  | zero =>
    intro N W x1 h1 h2 fW hR ht hx
    rcases hx with ⟨a, b, -⟩ | ⟨a, b⟩
    · omega
    · have := pig N W h1 b; omega
  | succ n ih =>
    intro N W x1 h1 h2 fW hR ht hx
    rw [b_M_worths_L74]
    rcases hx with ⟨a, b, c⟩ | ⟨a, b⟩
    · exact Tr_t a (Tr_ret ⟨fW, c⟩)
    refine Tr_f (by omega) ?_
    have hN := pig N W h1 b
    refine wo_L82 hG (u := u) h hQ (N := N) ⟨h1, by omega⟩ (fun W2 x2 f2 hR2 hm2 hH2 => ?_) FU 0 W 0 (by omega) hQ.1 (by rw [FU_v]; have := hQ.2.1; omega) fW (RI_mono hR fun q _ z => by obtain ⟨i, i0, i1, -⟩ := z; omega) (Or.inl ⟨rfl, ht⟩) b
    rw [w32_id (by omega) (by omega)]
    refine ih (N + 1) W2 x2 (by omega) (by omega) f2 (RI_next hR2 fun _ _ => trivial) (fun p hp => by have := RI_t hR2 (by omega) hp; omega) ?_
    rcases hm2 with ⟨q1, q2⟩ | ⟨q1, q2⟩
    · exact Or.inl ⟨q1, by omega, RI_end hR2 (fun _ _ => trivial) (RM_cl hG h) h1 q2⟩
    · refine Or.inr ⟨q1, fun K k1 k2 => ?_⟩
      by_cases hk : K = N
      · subst hk; exact q2
      · exact hH2 K k1 (by omega)
/-- as the worths stand ahead of the first round -/
def W0 (m : Int → List Int) (u : Int) (w t : Int → Int) (p : Int) : Prop := (m p = [] → w p = u ∧ t p = if u = 0 then -1 else 0) ∧ (m p ≠ [] → w p = 0 ∧ t p = -1)
theorem RI_start {m : Int → List Int} {u : Int} {D : Int → Prop} {w t : Int → Int} (hc : cl m D) (h : ∀ p, D p → W0 m u w t p) : RI m u D w t 1 (fun _ => False) := by
  intro p hp
  have hpos : ∀ e, D e → w e ≠ 0 → 0 ≤ t e := by
    intro e he hw
    by_cases hm : m e = []
    · have := (h e he).1 hm
      by_cases hu : u = 0
      · omega
      · rw [if_neg hu] at this; omega
    · have := (h e he).2 hm
      omega
  refine ⟨(h p hp).1, fun hm => Or.inr (Or.inr ⟨((h p hp).2 hm).1, ((h p hp).2 hm).2, ⟨fun e he => ⟨fun _ => by omega, fun e0 q => ?_⟩, ?_⟩, fun c => c.elim⟩)⟩
  · have := hpos e (hc p hp e he e0) (by omega)
    omega
  · obtain ⟨e, he⟩ := List.exists_mem_of_ne_nil _ hm
    refine ⟨e, he, ?_⟩
    by_cases e0 : e < 0
    · exact Or.inr (Or.inr ⟨e0, by omega⟩)
    · refine Or.inr (Or.inl ⟨by omega, ?_⟩)
      by_cases q : w e = 1
      · have := hpos e (hc p hp e he (by omega)) (by omega)
        right; omega
      · exact Or.inl q
theorem wo_J {K2 : ASt → Int → Option (Int × ASt)} {W : ASt} {k p x : Int} {Q : Int → ASt → Prop} (hp : 0 ≤ p ∧ p < 200) (h : ∀ W2 : ASt, W2 180 = upI (W 180) p x → W2 181 = upI (W 181) p (if x = 0 then -1 else 0) → frW W W2 → Tr (K2 W2 (w32 (k + 1))) Q) : Tr (b_M_worths_J41 S0 K2 W 142 k p x) Q := by
  unfold b_M_worths_J41 b_M_worths_J63
  rw [F_142_57, F_142_58, A_180, gd_in hp.1 hp.2]
  refine Tr_set (fun V1 e1 n1 => ?_)
  rw [A_181, gd_in hp.1 hp.2, gd_in hp.1 hp.2]
  refine Tr_if (fun c => ?_) (fun c => ?_)
  · refine Tr_set (fun V2 e2 n2 => ?_)
    exact h V2 (by rw [n2 180 (by decide), e1]) (by rw [e2, n1 181 (by decide), if_pos c]) (fun a a1 a2 => by rw [n2 a a2, n1 a a1])
  · refine Tr_set (fun V2 e2 n2 => ?_)
    exact h V2 (by rw [n2 180 (by decide), e1]) (by rw [e2, n1 181 (by decide), if_neg c]) (fun a a1 a2 => by rw [n2 a a2, n1 a a1])
theorem wo_L2 {G : GM} {b : Int} (hG : GOK G) {s : SL} {V : ASt} (hg : rG G b V) (h : RM G s V) (hQ : QI G V) : ∀ (n : Nat) (k : Int) (W : ASt), 0 ≤ k → k ≤ V 142 56 → V 142 56 - k < n → frW V W → (∀ i, 0 ≤ i → i < k → W0 (nx G s) (qU G - 1) (W 180) (W 181) (V 179 i)) →
    Tr (b_M_worths_L2 S0 142 n W k) (fun _ U => frW V U ∧ Sol (nx G s) (qU G - 1) (wPos V) (U 180) (U 181)) := by
  have hq := qPos_le hG
  have hU := hG.2.2.2.1
  intro n
  induction n with
  | zero => intro k W h1 h2 h3; omega
  | succ n ih =>
    intro k W k0 k1 hn fW hW
    have h200 := hQ.2.1
    rw [b_M_worths_L2, fW 142 (by decide) (by decide), F_142_55, F_142_51, F_142_18]
    refine Tr_if (fun c => ?_) (fun c => ?_)
    · have hall : ∀ p, wPos V p → W0 (nx G s) (qU G - 1) (W 180) (W 181) p := by
        intro p hp
        rcases hQ.2.2.2.2 p hp.1 hp.2.1 with z | ⟨-, i, i0, i1, i2⟩
        · have := hp.2.2; omega
        · rw [← i2]; exact hW i i0 (by omega)
      have hR := RI_start (RM_cl hG h) hall
      refine wo_L74 hG h hQ FU 1 W 1 (by omega) (by rw [FU_v]; omega) fW hR (fun p hp => ?_) (Or.inr ⟨rfl, fun K a c2 => by omega⟩)
      by_cases hm : nx G s p = []
      · have := (hall p hp).1 hm
        by_cases hu : qU G - 1 = 0
        · rw [if_pos hu] at this; omega
        · rw [if_neg hu] at this; omega
      · have := (hall p hp).2 hm; omega
    have hi := hQ.2.2.1 k k0 (by omega)
    have hrow := h (V 179 k) hi.1 (by omega) hi.2.2
    have hb := hg.2.1
    rw [A_179, gd_in (by omega) (by omega), fW 179 (by decide) (by decide), A_175, gd_in (by omega) (by omega), fW 175 (by decide) (by decide), hrow.2.1, A_149, hg.1, gd_in (by omega) (by omega), fW 149 (by decide) (by decide), hg.2.2.2.2.1, w32_id (x := qU G - 1) (by omega) (by omega)]
    have hstep : ∀ x, W0 (nx G s) (qU G - 1) (fun _ => x) (fun _ => if x = 0 then -1 else 0) (V 179 k) → Tr (b_M_worths_J41 S0 (b_M_worths_L2 S0 142 n) W 142 k (V 179 k) x) (fun _ U => frW V U ∧ Sol (nx G s) (qU G - 1) (wPos V) (U 180) (U 181)) := fun x hx =>
      wo_J ⟨hi.1, by omega⟩ fun W2 w1 w2 w3 => by
        rw [w32_id (by omega) (by omega)]
        refine ih (k + 1) W2 (by omega) (by omega) (by omega) (fun a a1 a2 => by rw [w3 a a1 a2, fW a a1 a2]) (fun i i0 i1 => ?_)
        by_cases z : i = k
        · subst z
          unfold W0 at *
          rw [w1, w2, upI_s, upI_s]; exact hx
        · have hne : V 179 i ≠ V 179 k := fun q => z (hQ.2.2.2.1 i k i0 (by omega) k0 (by omega) q)
          have := hW i i0 (by omega)
          unfold W0 at *
          rw [w1, w2, upI_n _ _ hne, upI_n _ _ hne]; exact this
    refine Tr_if (fun c1 => ?_) (fun c1 => ?_)
    · exact hstep _ ⟨fun _ => ⟨rfl, rfl⟩, fun z => absurd (List.length_eq_zero_iff.mp (by omega)) z⟩
    · exact hstep 0 ⟨fun z => by rw [z] at c1; exact absurd (Int.le_refl _) c1, fun _ => ⟨rfl, rfl⟩⟩
theorem M_worths {G : GM} {b : Int} (hG : GOK G) {s : SL} {V : ASt} (hg : rG G b V) (h : RM G s V) (hQ : QI G V) : Tr (f_M_worths S0 V 142) (fun _ U => frW V U ∧ Sol (nx G s) (qU G - 1) (wPos V) (U 180) (U 181)) := by
  unfold f_M_worths
  refine Tr_gd O_142 (wo_L2 hG hg h hQ FU 0 V (by omega) hQ.1 (by rw [FU_v]; have := hQ.2.1; omega) (fun _ _ _ => rfl) (fun i a c => by omega))
