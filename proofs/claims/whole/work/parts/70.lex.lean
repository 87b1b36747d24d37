/-! tokens of a tape; the reference looks ahead -/
abbrev ltr (c : Int) : Prop := 97 ≤ c ∧ c ≤ 122
abbrev dgt (c : Int) : Prop := 48 ≤ c ∧ c ≤ 57
abbrev sgn (c : Int) : Prop := c = 59 ∨ c = 44 ∨ c = 40 ∨ c = 41 ∨ c = 91 ∨ c = 93 ∨ c = 60 ∨ c = 62 ∨ c = 61 ∨ c = 43 ∨ c = 45 ∨ c = 42 ∨ c = 47 ∨ c = 37
def skp (T : Int → Int) (n : Int) : Nat → Int → Int
  | 0, i => i
  | m + 1, i => if i < n ∧ (T i = 32 ∨ T i = 10) then skp T n m (i + 1) else i
def rnE (T : Int → Int) (n lo hi : Int) : Nat → Int → Int
  | 0, i => i
  | m + 1, i => if i < n ∧ lo ≤ T i ∧ T i ≤ hi then rnE T n lo hi m (i + 1) else i
def sbl (T : Int → Int) : Nat → Int → List Int
  | 0, _ => []
  | m + 1, i => T i :: sbl T m (i + 1)
def nd : List Int → Int → Int
  | [], a => a
  | c :: l, a => nd l (10 * a + c - 48)
theorem skp_r (T : Int → Int) (n : Int) : ∀ (m : Nat) (i : Int), i ≤ skp T n m i ∧ (i ≤ n → skp T n m i ≤ n) := by
  intro m
  induction m with
  | zero => intro i; exact ⟨Int.le_refl _, fun h => h⟩
  | succ m ih =>
    intro i
    rw [skp]
    by_cases c : i < n ∧ (T i = 32 ∨ T i = 10)
    · rw [if_pos c]
      have := ih (i + 1)
      exact ⟨by omega, fun _ => this.2 (by omega)⟩
    · rw [if_neg c]; exact ⟨Int.le_refl _, fun h => h⟩
theorem rnE_r (T : Int → Int) (n lo hi : Int) : ∀ (m : Nat) (i : Int), i ≤ rnE T n lo hi m i ∧ (i ≤ n → rnE T n lo hi m i ≤ n) := by
  intro m
  induction m with
  | zero => intro i; exact ⟨Int.le_refl _, fun h => h⟩
  | succ m ih =>
    intro i
    rw [rnE]
    by_cases c : i < n ∧ lo ≤ T i ∧ T i ≤ hi
    · rw [if_pos c]
      have := ih (i + 1)
      exact ⟨by omega, fun _ => this.2 (by omega)⟩
    · rw [if_neg c]; exact ⟨Int.le_refl _, fun h => h⟩
/-- all in a run is of its kind -/
theorem rnE_in (T : Int → Int) (n lo hi : Int) : ∀ (m : Nat) (i j : Int), i ≤ j → j < rnE T n lo hi m i → j < n ∧ lo ≤ T j ∧ T j ≤ hi := by
  intro m
  induction m with
  | zero => intro i j h1 h2; rw [rnE] at h2; omega
  | succ m ih =>
    intro i j h1 h2
    rw [rnE] at h2
    by_cases c : i < n ∧ lo ≤ T i ∧ T i ≤ hi
    · rw [if_pos c] at h2
      by_cases z : j = i
      · rw [z]; exact c
      · exact ih (i + 1) j (by omega) h2
    · rw [if_neg c] at h2; omega
theorem sbl_len (T : Int → Int) : ∀ (m : Nat) (i : Int), (sbl T m i).length = m := by
  intro m
  induction m with
  | zero => intro i; rfl
  | succ m ih => intro i; rw [sbl, List.length_cons, ih]
theorem sbl_s (T : Int → Int) : ∀ (m : Nat) (i : Int), sbl T (m + 1) i = sbl T m i ++ [T (i + m)] := by
  intro m
  induction m with
  | zero => intro i; rw [sbl, sbl, sbl, show i + ((0 : Nat) : Int) = i by omega]; rfl
  | succ m ih =>
    intro i
    rw [sbl, ih (i + 1), sbl, show i + 1 + (m : Int) = i + ((m + 1 : Nat) : Int) by omega]; rfl
theorem sbl_mem (T : Int → Int) : ∀ (m : Nat) (i c : Int), c ∈ sbl T m i → ∃ j, i ≤ j ∧ j < i + m ∧ c = T j := by
  intro m
  induction m with
  | zero => intro i c h; cases h
  | succ m ih =>
    intro i c h
    rw [sbl, List.mem_cons] at h
    rcases h with h | h
    · exact ⟨i, by omega, by omega, h⟩
    · obtain ⟨j, j1, j2, j3⟩ := ih (i + 1) c h
      exact ⟨j, by omega, by omega, j3⟩
theorem nm256_s : ∀ (l : List Int) (a c : Int), nm256 (l ++ [c]) a = 256 * nm256 l a + c := by
  intro l
  induction l with
  | nil => intro a c; rfl
  | cons d l ih => intro a c; exact ih _ _
theorem nd_s : ∀ (l : List Int) (a c : Int), nd (l ++ [c]) a = 10 * nd l a + c - 48 := by
  intro l
  induction l with
  | nil => intro a c; rfl
  | cons d l ih => intro a c; exact ih _ _
def ownW : List (List Int) := [[98, 111, 97, 114, 100], [112, 105, 101, 99, 101], [97, 116], [111, 102], [101, 118, 101, 114], [115, 116, 117, 99, 107], [108, 111, 115, 101, 115], [100, 114, 97, 119, 115], [119, 105, 110, 115], [109, 97, 121], [110, 111, 116], [117, 112], [100, 111, 119, 110], [111, 102, 102], [119, 104, 101, 110], [111, 114], [97, 110, 100], [97, 108, 108], [115, 112, 111, 116], [103, 111, 97, 108], [119, 104, 111], [109, 105, 110], [109, 97, 120]]
def ownI (ls : List Int) : List (List Int) → Int → Int
  | [], _ => 2
  | w :: r, i => if ls = w then i else ownI ls r (i + 1)
def ownT (ls : List Int) : Int := ownI ls ownW 256
def pA (T : Int → Int) (n e : Int) : Int := skp T n 2000 e
def wE (T : Int → Int) (n a : Int) : Int := rnE T n 97 122 2000 a
def dE (T : Int → Int) (n a : Int) : Int := rnE T n 48 57 2000 a
abbrev jnd (T : Int → Int) (a : Int) : Prop := 0 < a ∧ (ltr (T (a - 1)) ∨ dgt (T (a - 1)))
def tkT (T : Int → Int) (n e : Int) : Int := if n ≤ pA T n e then 0 else if ltr (T (pA T n e)) ∨ dgt (T (pA T n e)) then (if jnd T (pA T n e) then 1 else if ltr (T (pA T n e)) then (if 6 < wE T n (pA T n e) - pA T n e then 1 else ownT (sbl T (wE T n (pA T n e) - pA T n e).toNat (pA T n e))) else if 4 < dE T n (pA T n e) - pA T n e then 1 else 3) else if sgn (T (pA T n e)) then T (pA T n e) else 1
/-- a token at which the reference finds fault when it looks ahead -/
def tkH (T : Int → Int) (n e : Int) : Int := if n ≤ pA T n e then 0 else if ltr (T (pA T n e)) ∨ dgt (T (pA T n e)) then (if jnd T (pA T n e) then 1 else if ltr (T (pA T n e)) then (if 6 < wE T n (pA T n e) - pA T n e then 1 else 0) else if 4 < dE T n (pA T n e) - pA T n e then 1 else 0) else 0
def tkP (T : Int → Int) (n e : Int) : Int := if n ≤ pA T n e then pA T n e else if ltr (T (pA T n e)) ∨ dgt (T (pA T n e)) then (if jnd T (pA T n e) then pA T n e else if ltr (T (pA T n e)) then (if 6 < wE T n (pA T n e) - pA T n e then pA T n e + 6 else pA T n e) else if 4 < dE T n (pA T n e) - pA T n e then pA T n e + 4 else pA T n e) else pA T n e
def tkE (T : Int → Int) (n e : Int) : Int := if n ≤ pA T n e then pA T n e else if ltr (T (pA T n e)) then wE T n (pA T n e) else if dgt (T (pA T n e)) then dE T n (pA T n e) else pA T n e + 1
def tkN (T : Int → Int) (n e : Int) : List Int := sbl T (wE T n (pA T n e) - pA T n e).toNat (pA T n e)
def tkV (T : Int → Int) (n e : Int) : Int := nd (sbl T (dE T n (pA T n e) - pA T n e).toNat (pA T n e)) 0
/-- the reference has looked at the token behind e -/
def rTk (T : Int → Int) (n e : Int) (U : ASt) : Prop := (tkH T n e = 1 ∧ U 142 8 = 1 ∧ U 142 9 = tkP T n e) ∨ (tkH T n e = 0 ∧ U 142 8 = 0 ∧ U 142 4 = tkP T n e ∧ U 142 5 = tkE T n e ∧
  ((tkT T n e = 0 ∧ U 142 3 = 0) ∨ ((tkT T n e = 2 ∨ 256 ≤ tkT T n e) ∧ U 142 3 = 1 ∧ U 142 6 = 0 ∧ U 142 7 = nm256 (tkN T n e) 0 ∧ nmL (tkN T n e) ∧ tkT T n e = ownT (tkN T n e)) ∨ (tkT T n e = 3 ∧ U 142 3 = 2 ∧ U 142 6 = tkV T n e ∧ 0 ≤ tkV T n e ∧ tkV T n e ≤ 9999) ∨ (sgn (tkT T n e) ∧ U 142 3 = 3 ∧ U 142 6 = tkT T n e) ∨ (tkT T n e = 1 ∧ U 142 3 = 3 ∧ ¬ sgn (U 142 6))))
/-- only what looking ahead sets is changed -/
def frA (V U : ASt) : Prop := (∀ a, a ≠ 142 → U a = V a) ∧ (∀ k, (k < 3 ∨ 9 < k) → U 142 k = V 142 k)
theorem frA_rfl (V : ASt) : frA V V := ⟨fun _ _ => rfl, fun _ _ => rfl⟩
theorem frA_tr {V U W : ASt} (h : frA V U) (h2 : frA U W) : frA V W := ⟨fun a ha => by rw [h2.1 a ha, h.1 a ha], fun k hk => by rw [h2.2 k hk, h.2 k hk]⟩
theorem frA_set {V U : ASt} {k x : Int} (hk : 3 ≤ k ∧ k ≤ 9) (e : U 142 = upI (V 142) k x) (n : ∀ b, b ≠ 142 → U b = V b) : frA V U := ⟨n, fun j hj => by rw [e, upI_n _ _ (by omega)]⟩
theorem ownI_r (ls : List Int) : ∀ (r : List (List Int)) (i : Int), ownI ls r i = 2 ∨ (i ≤ ownI ls r i ∧ ownI ls r i < i + r.length) := by
  intro r
  induction r with
  | nil => intro i; exact Or.inl rfl
  | cons w r ih =>
    intro i
    rw [ownI, List.length_cons]
    by_cases c : ls = w
    · rw [if_pos c]; exact Or.inr (by omega)
    · rw [if_neg c]
      rcases ih (i + 1) with z | z
      · exact Or.inl z
      · exact Or.inr (by omega)
theorem ownT_r (ls : List Int) : ownT ls = 2 ∨ (256 ≤ ownT ls ∧ ownT ls < 279) := by
  rcases ownI_r ls ownW 256 with z | z
  · exact Or.inl z
  · have : (ownW.length : Int) = 23 := rfl
    exact Or.inr ⟨z.1, by unfold ownT; omega⟩
theorem or64_8 {w c : Int} (h0 : 0 ≤ w) (h1 : w < 1099511627776) (c0 : 0 ≤ c) (c1 : c ≤ 255) : or64 (shl64 w 8) c = 256 * w + c := by
  obtain ⟨m, em⟩ : ∃ m : Nat, w = (m : Int) := ⟨w.toNat, by omega⟩
  obtain ⟨d, ed⟩ : ∃ d : Nat, c = (d : Int) := ⟨c.toNat, by omega⟩
  subst em
  subst ed
  rw [shl64_8 (by omega), or64_n (by omega) (by omega)]
  have := Nat.two_pow_add_eq_or_of_lt (i := 8) (b := d) (show d < 2 ^ 8 by omega) m
  rw [show (2 : Nat) ^ 8 = 256 from rfl] at this
  rw [Nat.mul_comm m 256, ← this]
  omega
theorem nm256_b : ∀ (l : List Int) (a : Int), 0 ≤ a → (∀ c, c ∈ l → 0 ≤ c ∧ c ≤ 255) → 0 ≤ nm256 l a ∧ (l.length = 0 → nm256 l a = a) ∧ (l.length = 1 → nm256 l a ≤ 256 * a + 255) ∧ (l.length = 2 → nm256 l a ≤ 65536 * a + 65535) ∧ (l.length = 3 → nm256 l a ≤ 16777216 * a + 16777215) ∧ (l.length = 4 → nm256 l a ≤ 4294967296 * a + 4294967295) ∧ (l.length = 5 → nm256 l a ≤ 1099511627776 * a + 1099511627775) := by
  intro l
  induction l with
  | nil => intro a h0 h; exact ⟨h0, fun _ => rfl, fun e => absurd e (by decide), fun e => absurd e (by decide), fun e => absurd e (by decide), fun e => absurd e (by decide), fun e => absurd e (by decide)⟩
  | cons d l ih =>
    intro a h0 h
    have hd := h d (List.mem_cons_self ..)
    have := ih (256 * a + d) (by omega) (fun c hc => h c (List.mem_cons_of_mem _ hc))
    rw [List.length_cons, nm256]
    refine ⟨this.1, fun e => by omega, fun e => ?_, fun e => ?_, fun e => ?_, fun e => ?_, fun e => ?_⟩
    · rw [this.2.1 (by omega)]; omega
    · have := this.2.2.1 (by omega); omega
    · have := this.2.2.2.1 (by omega); omega
    · have := this.2.2.2.2.1 (by omega); omega
    · have := this.2.2.2.2.2.1 (by omega); omega
theorem nd_b : ∀ (l : List Int) (a : Int), 0 ≤ a → (∀ c, c ∈ l → 48 ≤ c ∧ c ≤ 57) → 0 ≤ nd l a ∧ (l.length = 0 → nd l a = a) ∧ (l.length = 1 → nd l a ≤ 10 * a + 9) ∧ (l.length = 2 → nd l a ≤ 100 * a + 99) ∧ (l.length = 3 → nd l a ≤ 1000 * a + 999) ∧ (l.length = 4 → nd l a ≤ 10000 * a + 9999) := by
  intro l
  induction l with
  | nil => intro a h0 h; exact ⟨h0, fun _ => rfl, fun e => absurd e (by decide), fun e => absurd e (by decide), fun e => absurd e (by decide), fun e => absurd e (by decide)⟩
  | cons d l ih =>
    intro a h0 h
    have hd := h d (List.mem_cons_self ..)
    have := ih (10 * a + d - 48) (by omega) (fun c hc => h c (List.mem_cons_of_mem _ hc))
    rw [List.length_cons, nd]
    refine ⟨this.1, fun e => by omega, fun e => ?_, fun e => ?_, fun e => ?_, fun e => ?_⟩
    · rw [this.2.1 (by omega)]; omega
    · have := this.2.2.1 (by omega); omega
    · have := this.2.2.2.1 (by omega); omega
    · have := this.2.2.2.2.1 (by omega); omega
theorem M_isLetter (V : ASt) (c : Int) : f_M_isLetter S0 V c = some (if ltr c then 1 else 0, V) := by
  unfold f_M_isLetter
  by_cases h : c < 97
  · rw [if_pos h, if_neg (by omega)]
  · rw [if_neg h]
    by_cases h2 : 122 < c
    · rw [if_pos h2, if_neg (by omega)]
    · rw [if_neg h2, if_pos (by omega)]
theorem M_isDigit (V : ASt) (c : Int) : f_M_isDigit S0 V c = some (if dgt c then 1 else 0, V) := by
  unfold f_M_isDigit
  by_cases h : c < 48
  · rw [if_pos h, if_neg (by omega)]
  · rw [if_neg h]
    by_cases h2 : 57 < c
    · rw [if_pos h2, if_neg (by omega)]
    · rw [if_neg h2, if_pos (by omega)]
theorem M_blame (V : ASt) (k p : Int) : Tr (f_M_blame S0 V 142 k p) (fun _ U => frA V U ∧ (∀ j, j ≠ 8 → j ≠ 9 → U 142 j = V 142 j) ∧ (V 142 8 ≤ 0 → U 142 8 = k ∧ U 142 9 = p) ∧ (¬ V 142 8 ≤ 0 → U 142 8 = V 142 8 ∧ U 142 9 = V 142 9)) := by
  unfold f_M_blame
  rw [gd_t O_142]
  refine Tr_if (fun c => ?_) (fun c => ?_)
  · refine Tr_set (fun V1 e1 n1 => ?_)
    refine Tr_set (fun V2 e2 n2 => Tr_ret ⟨frA_tr (frA_set (by decide) e1 n1) (frA_set (by decide) e2 n2), fun j j1 j2 => by rw [e2, upI_n _ _ j2, e1, upI_n _ _ j1], fun _ => ⟨by rw [e2, upI_n _ _ (by decide), e1, upI_s], by rw [e2, upI_s]⟩, fun h => absurd c h⟩)
  · exact Tr_ret ⟨frA_rfl V, fun _ _ _ => rfl, fun h => absurd h c, fun _ => ⟨rfl, rfl⟩⟩
