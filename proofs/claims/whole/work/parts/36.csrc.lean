/-! the class's values: from where moves come -/
def cI (f : Int → Int) (q : Int) (lo : Int) : Nat → Int
  | 0 => 0
  | k + 1 => (if f lo = q then 1 else 0) + cI f q (lo + 1) k
theorem cI_0 (f : Int → Int) (q : Int) : ∀ (k : Nat) (lo : Int), 0 ≤ cI f q lo k := by
  intro k
  induction k with
  | zero => intro lo; exact Int.le_refl _
  | succ k ih =>
    intro lo
    rw [cI]
    have := ih (lo + 1)
    by_cases c : f lo = q
    · rw [if_pos c]; omega
    · rw [if_neg c]; omega
theorem cI_snoc (f : Int → Int) (q : Int) : ∀ (k : Nat) (lo : Int), cI f q lo (k + 1) = cI f q lo k + (if f (lo + k) = q then 1 else 0) := by
  intro k
  induction k with
  | zero => intro lo; rw [cI, cI, cI, show lo + ((0 : Nat) : Int) = lo by omega]; omega
  | succ k ih =>
    intro lo
    rw [cI, ih (lo + 1), cI, show lo + 1 + (k : Int) = lo + ((k + 1 : Nat) : Int) by omega]
    omega
theorem cI_congr {f g : Int → Int} {q : Int} : ∀ (k : Nat) (lo : Int), (∀ i, lo ≤ i → i < lo + k → f i = g i) → cI f q lo k = cI g q lo k := by
  intro k
  induction k with
  | zero => intro lo _; rfl
  | succ k ih =>
    intro lo h
    rw [cI, cI, h lo (by omega) (by omega), ih (lo + 1) (fun i a b => h i (by omega) (by omega))]
theorem cI_pos {f : Int → Int} {q : Int} : ∀ (k : Nat) (lo i : Int), lo ≤ i → i < lo + k → f i = q → 1 ≤ cI f q lo k := by
  intro k
  induction k with
  | zero => intro lo i a b; omega
  | succ k ih =>
    intro lo i a b e
    rw [cI]
    by_cases c : i = lo
    · rw [if_pos (by rw [← c]; exact e)]
      have := cI_0 f q k (lo + 1)
      omega
    · have := ih (lo + 1) i (by omega) (by omega) e
      by_cases d : f lo = q
      · rw [if_pos d]; omega
      · rw [if_neg d]; omega
def cn (p : Int) : List Int → Int
  | [] => 0
  | e :: l => (if e = p then 1 else 0) + cn p l
theorem cn_r (p : Int) : ∀ l : List Int, 0 ≤ cn p l ∧ cn p l ≤ l.length := by
  intro l
  induction l with
  | nil => exact ⟨Int.le_refl _, Int.le_refl _⟩
  | cons e l ih =>
    rw [cn, List.length_cons]
    by_cases c : e = p
    · rw [if_pos c]; omega
    · rw [if_neg c]; omega
theorem cn_app (p : Int) : ∀ l l' : List Int, cn p (l ++ l') = cn p l + cn p l' := by
  intro l l'
  induction l with
  | nil => rw [List.nil_append, cn]; omega
  | cons e l ih => rw [List.cons_append, cn, cn, ih]; omega
theorem take_s {l : List Int} {j : Nat} (h : j < l.length) : l.take (j + 1) = l.take j ++ [l.getD j 0] := by
  rw [List.take_add_one, List.getElem?_eq_getElem h, getD_e h]; rfl
theorem cn_take {p : Int} {l : List Int} {j : Nat} (h : j < l.length) : cn p (l.take (j + 1)) = cn p (l.take j) + (if l.getD j 0 = p then 1 else 0) := by
  rw [take_s h, cn_app, cn, cn]; omega
theorem cn_take_le (p : Int) (l : List Int) (j : Nat) : 0 ≤ cn p (l.take j) ∧ cn p (l.take j) ≤ cn p l := by
  have h := cn_app p (l.take j) (l.drop j)
  rw [List.take_append_drop] at h
  have := cn_r p (l.drop j)
  have := cn_r p (l.take j)
  omega
theorem cn_mem {p : Int} : ∀ {l : List Int}, 1 ≤ cn p l → p ∈ l := by
  intro l
  induction l with
  | nil => intro h; rw [cn] at h; omega
  | cons e l ih =>
    intro h
    rw [cn] at h
    by_cases c : e = p
    · rw [c]; exact List.mem_cons_self
    · rw [if_neg c] at h
      exact List.mem_cons_of_mem _ (ih (by omega))
def ed (M : Int → List Int) (L : Int → Int) (p : Int) : Nat → Int
  | 0 => 0
  | x + 1 => ed M L p x + cn p (M (L x))
def ed2 (M : Int → List Int) (L : Int → Int) (p q : Int) : Nat → Int
  | 0 => 0
  | x + 1 => ed2 M L p q x + (if L x = q then cn p (M (L x)) else 0)
theorem ed_r {M : Int → List Int} {L : Int → Int} (p : Int) (b : ∀ q, (M q).length ≤ 12) : ∀ x : Nat, 0 ≤ ed M L p x ∧ ed M L p x ≤ 12 * x := by
  intro x
  induction x with
  | zero => exact ⟨Int.le_refl _, Int.le_refl _⟩
  | succ x ih =>
    rw [ed]
    have := cn_r p (M (L x))
    have := b (L x)
    omega
theorem ed_mono {M : Int → List Int} {L : Int → Int} (p : Int) (x : Nat) : ∀ d : Nat, ed M L p x ≤ ed M L p (x + d) := by
  intro d
  induction d with
  | zero => exact Int.le_refl _
  | succ d ih =>
    rw [show x + (d + 1) = x + d + 1 by omega, ed]
    have := cn_r p (M (L ((x + d : Nat) : Int)))
    omega
theorem ed2_0 {M : Int → List Int} {L : Int → Int} {p q : Int} : ∀ x : Nat, (∀ i : Nat, i < x → L i ≠ q) → ed2 M L p q x = 0 := by
  intro x
  induction x with
  | zero => intro _; rfl
  | succ x ih =>
    intro h
    rw [ed2, ih (fun i hi => h i (by omega)), if_neg (h x (by omega))]; rfl
theorem ed2_1 {M : Int → List Int} {L : Int → Int} {p q : Int} : ∀ x : Nat, (∀ i j : Nat, i < x → j < x → L i = L j → i = j) → (∃ i : Nat, i < x ∧ L i = q) → ed2 M L p q x = cn p (M q) := by
  intro x
  induction x with
  | zero => rintro _ ⟨i, hi, -⟩; omega
  | succ x ih =>
    rintro inj ⟨i, hi, e⟩
    rw [ed2]
    by_cases c : L x = q
    · rw [if_pos c, ed2_0 x (fun k hk z => by have := inj k x (by omega) (by omega) (by rw [z, c]); omega), c]; omega
    · rw [if_neg c, ih (fun a b ha hb => inj a b (by omega) (by omega)) ⟨i, ?_, e⟩]
      · omega
      · by_cases z : i = x
        · subst z; exact absurd e c
        · omega
theorem ed2_w {M : Int → List Int} {L : Int → Int} {p q : Int} : ∀ x : Nat, ed2 M L p q x ≠ 0 → ∃ i : Nat, i < x ∧ L i = q := by
  intro x h
  refine Classical.byContradiction fun hno => h (ed2_0 x fun i hi e => hno ⟨i, hi, e⟩)
def pre (f : Int → Int) : Nat → Int
  | 0 => 0
  | k + 1 => pre f k + f k
theorem pre_mono {f : Int → Int} (h : ∀ i, 0 ≤ f i) (a : Nat) : ∀ d : Nat, pre f a ≤ pre f (a + d) := by
  intro d
  induction d with
  | zero => exact Int.le_refl _
  | succ d ih =>
    rw [show a + (d + 1) = a + d + 1 by omega, pre]
    have := h ((a + d : Nat) : Int)
    omega
theorem pre_add (f g : Int → Int) : ∀ k, pre (fun i => f i + g i) k = pre f k + pre g k := by
  intro k
  induction k with
  | zero => rfl
  | succ k ih => rw [pre, pre, pre, ih]; omega
theorem pre_ind (e : Int) : ∀ k : Nat, pre (fun p => if e = p then 1 else 0) k = if 0 ≤ e ∧ e < k then 1 else 0 := by
  intro k
  induction k with
  | zero => rw [pre, if_neg (by omega)]
  | succ k ih =>
    rw [pre, ih]
    by_cases c : e = (k : Int)
    · rw [if_neg (by omega), if_pos c, if_pos (by omega)]; rfl
    · rw [if_neg c]
      by_cases d : 0 ≤ e ∧ e < (k : Int)
      · rw [if_pos d, if_pos (by omega)]; rfl
      · rw [if_neg d, if_neg (by omega)]; rfl
theorem pre_cn : ∀ (l : List Int) (k : Nat), pre (fun p => cn p l) k ≤ l.length := by
  intro l
  induction l with
  | nil =>
    intro k
    induction k with
    | zero => exact Int.le_refl _
    | succ k ih => rw [pre, cn]; omega
  | cons e l ih =>
    intro k
    have h := pre_add (fun p => if e = p then 1 else 0) (fun p => cn p l) k
    have h2 : (fun p => cn p (e :: l)) = (fun p => (if e = p then (1 : Int) else 0) + cn p l) := rfl
    rw [h2, h, pre_ind, List.length_cons]
    have := ih k
    by_cases c : 0 ≤ e ∧ e < (k : Int)
    · rw [if_pos c]; omega
    · rw [if_neg c]; omega
theorem pre_ed {M : Int → List Int} {L : Int → Int} (b : ∀ q, (M q).length ≤ 12) (k : Nat) : ∀ x : Nat, pre (fun p => ed M L p x) k ≤ 12 * x := by
  intro x
  induction x with
  | zero =>
    have : ∀ k, pre (fun _ : Int => (0 : Int)) k = 0 := by
      intro k
      induction k with
      | zero => rfl
      | succ k ih => rw [pre, ih]; rfl
    have e : (fun p => ed M L p 0) = (fun _ : Int => (0 : Int)) := rfl
    rw [e, this]; omega
  | succ x ih =>
    have h := pre_add (fun p => ed M L p x) (fun p => cn p (M (L x))) k
    have h2 : (fun p => ed M L p (x + 1)) = (fun p => ed M L p x + cn p (M (L x))) := rfl
    rw [h2, h]
    have := pre_cn (M (L x)) k
    have := b (L x)
    omega
-- ---- reading moves
theorem nx_12 {G : GM} {s : SL} (hG : GOK G) (hs : SOK G s) (p : Int) : (nx G s p).length ≤ 12 := by
  have := cds_qR hG hs p
  have := hG.2.2.1
  rw [nx_len]; omega
theorem LDC_fr {G : GM} {s : SL} {m x : Int} {V W : ASt} (h : ∀ o, 0 ≤ o → o ≤ 5 → W (m + o) = V (m + o)) (g : LDC G s m V x) : LDC G s m W x := by
  have h0 := h 0 (by decide) (by decide)
  rw [Int.add_zero] at h0
  unfold LDC QC mvH cdH at *
  rw [h0, h 1 (by decide) (by decide), h 2 (by decide) (by decide), h 3 (by decide) (by decide), h 4 (by decide) (by decide), h 5 (by decide) (by decide)]
  exact g
/-- listed positions -/
def lP (m : Int) (V : ASt) (p : Int) : Prop := 0 ≤ p ∧ p < 200 ∧ V (m + 2) p = 1
theorem LDC_at {G : GM} {s : SL} {m : Int} {V : ASt} (hG : GOK G) (h : LDC G s m V (V m 1)) {p : Int} (hp : lP m V p) : p < qPos G ∧ mvH G s m V p ∧ (∀ e, e ∈ nx G s p → e = -1 ∨ e = -2 ∨ (0 ≤ e ∧ e < qPos G ∧ lP m V e)) ∧ ∃ i, 0 ≤ i ∧ i < V m 1 ∧ V (m + 1) i = p := by
  have hq := qPos_le hG
  rcases h.1.2.2.2.2 p hp.1 hp.2.1 with k | ⟨-, i, i0, i1, i2⟩
  · have := hp.2.2; omega
  have hl := h.2 i i0 i1
  have hr := h.1.2.2.1 i i0 i1
  rw [i2] at hl hr
  refine ⟨hr.2.1, hl.1, fun e he => ?_, i, i0, i1, i2⟩
  rcases nx_r hG hp.1 he with k | k | k
  · exact Or.inl k
  · exact Or.inr (Or.inl k)
  · exact Or.inr (Or.inr ⟨k.1, k.2, k.1, by omega, hl.2 e he k.1⟩)
theorem LDC_in {G : GM} {s : SL} {m : Int} {V : ASt} (hG : GOK G) (h : LDC G s m V (V m 1)) {i : Int} (i0 : 0 ≤ i) (i1 : i < V m 1) : lP m V (V (m + 1) i) := by
  have := h.1.2.2.1 i i0 i1
  have hq := qPos_le hG
  exact ⟨this.1, by omega, this.2.2⟩
theorem LDC_cl {G : GM} {s : SL} {m : Int} {V : ASt} (hG : GOK G) (h : LDC G s m V (V m 1)) : cl (nx G s) (lP m V) := by
  intro p hp e he e0
  rcases (LDC_at hG h hp).2.2.1 e he with k | k | k
  · omega
  · omega
  · exact k.2.2
theorem M_countOf {G : GM} {s : SL} {m p : Int} {V : ASt} (hm : isMv m) (hp : 0 ≤ p ∧ p < 200) (h : mvH G s m V p) : f_Moves_countOf S0 V m p = some (((nx G s p).length : Int), V) := by
  unfold f_Moves_countOf
  rw [gd_t (OM hm), if_neg (by omega), if_neg (by omega), FM_5 hm, AM3 hm, gd_in (by omega) (by omega), h.1.1, nx_len]
theorem M_isMove {G : GM} {s : SL} {m p : Int} {V : ASt} (hm : isMv m) (hp : 0 ≤ p ∧ p < 200) (h : mvH G s m V p) (j : Int) : f_Moves_isMove S0 V m p j = some (if 0 ≤ j ∧ j < (nx G s p).length then 1 else 0, V) := by
  unfold f_Moves_isMove
  rw [gd_t (OM hm), if_neg (by omega), if_neg (by omega), FM_5 hm, AM3 hm, gd_in (by omega) (by omega), h.1.1, nx_len]
  by_cases c : j < 0
  · rw [if_pos c, if_neg (by omega)]
  · rw [if_neg c]
    by_cases d : ((cds G s p).length : Int) ≤ j
    · rw [if_pos d, if_neg (by omega)]
    · rw [if_neg d, if_pos (by omega)]
theorem M_nextOf {G : GM} {s : SL} {m p : Int} {V : ASt} (hG : GOK G) (hs : SOK G s) (hm : isMv m) (hp : 0 ≤ p ∧ p < 200) (h : mvH G s m V p) {j : Nat} (hj : j < (nx G s p).length) : f_Moves_nextOf S0 V m p j = some ((nx G s p).getD j 0, V) := by
  have h12 := nx_12 hG hs p
  unfold f_Moves_nextOf
  rw [gd_t (OM hm), M_isMove hm hp h, bnd_e, if_pos (show (0 : Int) ≤ j ∧ (j : Int) < (nx G s p).length by omega), if_neg (by decide), w32_id (x := p * 12) (by omega) (by omega), w32_id (x := p * 12 + (j : Int)) (by omega) (by omega), show p * 12 + (j : Int) = 12 * p + j by omega, FM_7 hm, AM5 hm, gd_in (by omega) (by omega), h.2 j (by rw [nx_len] at hj; exact hj)]
theorem M_codeOf {G : GM} {s : SL} {m p : Int} {V : ASt} (hG : GOK G) (hs : SOK G s) (hm : isMv m) (hp : 0 ≤ p ∧ p < 200) (h : mvH G s m V p) (j : Int) : f_Moves_codeOf S0 V m p j = some (if 0 ≤ j ∧ j < (nx G s p).length then (cds G s p).getD j.toNat 0 else -1, V) := by
  have h12 := nx_12 hG hs p
  unfold f_Moves_codeOf
  rw [gd_t (OM hm), M_isMove hm hp h, bnd_e]
  by_cases c : 0 ≤ j ∧ j < (nx G s p).length
  · have := h.1.2 j.toNat (by rw [nx_len] at c; omega)
    rw [cast_t c.1] at this
    rw [if_pos c, if_neg (by decide), w32_id (x := p * 12) (by omega) (by omega), w32_id (x := p * 12 + j) (by omega) (by omega), show p * 12 + j = 12 * p + j by omega, FM_6 hm, AM4 hm, gd_in (by omega) (by omega), this, if_pos c]
  · rw [if_neg c, if_pos rfl, if_neg c]
theorem M_listedAt {m i : Int} {V : ASt} (hm : isMv m) (h0 : 0 ≤ i) (h1 : i < V m 1) (h2 : V m 1 ≤ 200) : f_Moves_listedAt S0 V m i = some (V (m + 1) i, V) := by
  unfold f_Moves_listedAt
  rw [gd_t (OM hm), if_neg (by omega), if_neg (by omega), FM_3 hm, AM1 hm, gd_in (by omega) (by omega)]
