/-! the class cuts the tape into tokens -/
def eK (T : Int → Int) (n : Int) : Nat → Int
  | 0 => 0
  | k + 1 => tkE T n (eK T n k)
def kT (T : Int → Int) (n k : Int) : Int := tkT T n (eK T n k.toNat)
def kP (T : Int → Int) (n k : Int) : Int := tkP T n (eK T n k.toNat)
def kH (T : Int → Int) (n k : Int) : Int := tkH T n (eK T n k.toNat)
def kN (T : Int → Int) (n k : Int) : List Int := tkN T n (eK T n k.toNat)
def kV (T : Int → Int) (n k : Int) : Int := tkV T n (eK T n k.toNat)
def tkC (T : Int → Int) (n e : Int) : Int := if tkT T n e = 2 ∨ 256 ≤ tkT T n e then nm32 (tkN T n e) 33554432 else if tkT T n e = 3 then tkV T n e else 0
def kC (T : Int → Int) (n k : Int) : Int := tkC T n (eK T n k.toNat)
/-- what a token that is one does: it ends behind its beginning; its last byte -/
theorem tk_good {T : Int → Int} {n e : Int} (h0 : 0 ≤ e) (h1 : e ≤ n) (ht0 : tkT T n e ≠ 0) (ht1 : tkT T n e ≠ 1) : e < tkE T n e ∧ tkE T n e ≤ n ∧ ((ltr (T (tkE T n e - 1)) ∨ dgt (T (tkE T n e - 1))) ↔ (tkT T n e = 2 ∨ tkT T n e = 3 ∨ 256 ≤ tkT T n e)) := by
  have ha := pA_r (T := T) h0 h1
  unfold tkT at *
  unfold tkE
  generalize pA T n e = a at *
  by_cases c : n ≤ a
  · rw [if_pos c] at ht0; exact absurd rfl ht0
  rw [if_neg c] at ht0 ht1 ⊢
  rw [if_neg c]
  by_cases hor : ltr (T a) ∨ dgt (T a)
  · rw [if_pos hor] at ht0 ht1 ⊢
    by_cases j : jnd T a
    · rw [if_pos j] at ht1; exact absurd rfl ht1
    rw [if_neg j] at ht0 ht1 ⊢
    by_cases cl : ltr (T a)
    · have hw := wE_n (n := n) (show 0 ≤ a by omega) (by omega) cl
      rw [if_pos cl] at ht0 ht1 ⊢
      rw [if_pos cl]
      by_cases y : 6 < wE T n a - a
      · rw [if_pos y] at ht1; exact absurd rfl ht1
      rw [if_neg y]
      have hl := (rnE_in T n 97 122 2000 a (wE T n a - 1) (by omega) (by unfold wE; omega)).2
      refine ⟨by omega, hw.2.1, ⟨fun _ => ?_, fun _ => Or.inl hl⟩⟩
      rcases ownT_r (sbl T (wE T n a - a).toNat a) with q | q
      · exact Or.inl q
      · exact Or.inr (Or.inr q.1)
    · have cd : dgt (T a) := hor.resolve_left cl
      have hw := dE_n (n := n) (show 0 ≤ a by omega) (by omega) cd
      rw [if_neg cl] at ht0 ht1 ⊢
      rw [if_neg cl, if_pos cd]
      by_cases y : 4 < dE T n a - a
      · rw [if_pos y] at ht1; exact absurd rfl ht1
      rw [if_neg y]
      have hl := (rnE_in T n 48 57 2000 a (dE T n a - 1) (by omega) (by unfold dE; omega)).2
      exact ⟨by omega, hw.2.1, ⟨fun _ => Or.inr (Or.inl rfl), fun _ => Or.inr hl⟩⟩
  · rw [if_neg hor] at ht0 ht1 ⊢
    have cl : ¬ ltr (T a) := fun z => hor (Or.inl z)
    have cd : ¬ dgt (T a) := fun z => hor (Or.inr z)
    rw [if_neg cl, if_neg cd]
    by_cases q : sgn (T a)
    · rw [if_pos q, show a + 1 - 1 = a by omega]
      refine ⟨by omega, by omega, ⟨fun z => absurd z hor, fun z => ?_⟩⟩
      unfold sgn at q
      omega
    · rw [if_neg q] at ht1; exact absurd rfl ht1
theorem eK_r {T : Int → Int} {n : Int} (hn : 0 ≤ n) : ∀ k : Nat, (∀ j : Nat, j < k → tkT T n (eK T n j) ≠ 0 ∧ tkT T n (eK T n j) ≠ 1) → (k : Int) ≤ eK T n k ∧ eK T n k ≤ n := by
  intro k
  induction k with
  | zero => intro _; exact ⟨Int.le_refl _, hn⟩
  | succ k ih =>
    intro h
    have i := ih (fun j hj => h j (by omega))
    have hk := h k (by omega)
    have := tk_good (T := T) (n := n) (e := eK T n k) (by omega) i.2 hk.1 hk.2
    rw [eK]
    omega
/-- the last token -/
def lstK (T : Int → Int) (n N : Int) : Prop := 0 ≤ N ∧ N ≤ n ∧ (∀ k, 0 ≤ k → k < N → kT T n k ≠ 0 ∧ kT T n k ≠ 1) ∧ (kT T n N = 0 ∨ kT T n N = 1)
theorem lstK_ex {T : Int → Int} {n : Int} (hn : 0 ≤ n) : ∃ N, lstK T n N := by
  have h : ∀ m : Nat, (∀ j : Nat, j < m → tkT T n (eK T n j) ≠ 0 ∧ tkT T n (eK T n j) ≠ 1) ∨ ∃ N, lstK T n N := by
    intro m
    induction m with
    | zero => exact Or.inl (fun j hj => by omega)
    | succ m ih =>
      rcases ih with ih | ih
      · by_cases c : tkT T n (eK T n m) ≠ 0 ∧ tkT T n (eK T n m) ≠ 1
        · refine Or.inl (fun j hj => ?_)
          by_cases z : j = m
          · rw [z]; exact c
          · exact ih j (by omega)
        · refine Or.inr ⟨m, by omega, ?_, fun k k0 k1 => ?_, ?_⟩
          · have := eK_r hn m ih; omega
          · exact ih k.toNat (by omega)
          · unfold kT
            rw [show ((m : Int)).toNat = m by omega]
            omega
      · exact Or.inr ih
  rcases h (n.toNat + 1) with h | h
  · have := eK_r hn _ h
    omega
  · exact h
theorem lstK_u {T : Int → Int} {n N M : Int} (h : lstK T n N) (h2 : lstK T n M) : N = M := by
  by_cases a : N < M
  · have := h2.2.2.1 N h.1 a
    have := h.2.2.2
    omega
  · by_cases b : M < N
    · have := h.2.2.1 M h2.1 b
      have := h2.2.2.2
      omega
    · omega
theorem eK_n {T : Int → Int} {n N : Int} (hn : 0 ≤ n) (h : lstK T n N) {k : Int} (h0 : 0 ≤ k) (h1 : k ≤ N) : k ≤ eK T n k.toNat ∧ eK T n k.toNat ≤ n := by
  have := eK_r hn k.toNat (fun j hj => by
    have := h.2.2.1 (j : Int) (by omega) (by omega)
    unfold kT at this
    rw [show ((j : Int)).toNat = j by omega] at this
    exact this)
  omega
theorem eK_s {T : Int → Int} {n k : Int} (h : 0 ≤ k) : eK T n (k + 1).toNat = tkE T n (eK T n k.toNat) := by
  rw [show (k + 1).toNat = k.toNat + 1 by omega]; rfl
-- ---- words with letters
theorem C_withLetter {l : List Int} {c : Int} (V : ASt) (hl : ∀ d, d ∈ l → 97 ≤ d ∧ d ≤ 122) (hlen : l.length ≤ 5) (hc : ltr c) : f_Tokens_withLetter S0 V (nm32 l 33554432) (l.length : Int) c = some (nm32 (l ++ [c]) 33554432, V) := by
  obtain ⟨q, hq, h0, h1⟩ := nm32_f hl (by omega)
  unfold f_Tokens_withLetter
  rw [nm32_s hlen]
  refine congrArg (fun y => some (y, V)) ?_
  obtain ⟨d, ed⟩ : ∃ d : Nat, c - 96 = (d : Int) := ⟨(c - 96).toNat, by omega⟩
  rw [w32_id (x := c - 97) (by omega) (by omega), w32_id (x := c - 97 + 1) (by omega) (by omega), show c - 97 + 1 = c - 96 by omega, w32_id (x := 5 - (l.length : Int)) (by omega) (by omega), w32_id (by omega) (by omega), ed]
  have hd : d ≤ 26 := by omega
  generalize nm32 l 33554432 = w at *
  generalize l.length = m at *
  have : m = 0 ∨ m = 1 ∨ m = 2 ∨ m = 3 ∨ m = 4 ∨ m = 5 := by omega
  rcases this with z | z | z | z | z | z <;> subst z
  · have s1 : shl32 (d : Int) (5 * (5 - ((0 : Nat) : Int))) = ((d * 33554432 : Nat) : Int) := shl_n (s := 25) (by decide) (show d * 33554432 < 2147483648 by omega)
    have hq' : w = ((1073741824 * q : Nat) : Int) := hq
    rw [s1, hq', or_n (by omega) (by omega), ← Nat.two_pow_add_eq_or_of_lt (i := 30) (show d * 33554432 < 1073741824 by omega) q]
    show ((1073741824 * q + d * 33554432 : Nat) : Int) = ((1073741824 * q : Nat) : Int) + (d : Int) * 33554432
    omega
  · have s1 : shl32 (d : Int) (5 * (5 - ((1 : Nat) : Int))) = ((d * 1048576 : Nat) : Int) := shl_n (s := 20) (by decide) (show d * 1048576 < 2147483648 by omega)
    have hq' : w = ((33554432 * q : Nat) : Int) := hq
    rw [s1, hq', or_n (by omega) (by omega), ← Nat.two_pow_add_eq_or_of_lt (i := 25) (show d * 1048576 < 33554432 by omega) q]
    show ((33554432 * q + d * 1048576 : Nat) : Int) = ((33554432 * q : Nat) : Int) + (d : Int) * 1048576
    omega
  · have s1 : shl32 (d : Int) (5 * (5 - ((2 : Nat) : Int))) = ((d * 32768 : Nat) : Int) := shl_n (s := 15) (by decide) (show d * 32768 < 2147483648 by omega)
    have hq' : w = ((1048576 * q : Nat) : Int) := hq
    rw [s1, hq', or_n (by omega) (by omega), ← Nat.two_pow_add_eq_or_of_lt (i := 20) (show d * 32768 < 1048576 by omega) q]
    show ((1048576 * q + d * 32768 : Nat) : Int) = ((1048576 * q : Nat) : Int) + (d : Int) * 32768
    omega
  · have s1 : shl32 (d : Int) (5 * (5 - ((3 : Nat) : Int))) = ((d * 1024 : Nat) : Int) := shl_n (s := 10) (by decide) (show d * 1024 < 2147483648 by omega)
    have hq' : w = ((32768 * q : Nat) : Int) := hq
    rw [s1, hq', or_n (by omega) (by omega), ← Nat.two_pow_add_eq_or_of_lt (i := 15) (show d * 1024 < 32768 by omega) q]
    show ((32768 * q + d * 1024 : Nat) : Int) = ((32768 * q : Nat) : Int) + (d : Int) * 1024
    omega
  · have s1 : shl32 (d : Int) (5 * (5 - ((4 : Nat) : Int))) = ((d * 32 : Nat) : Int) := shl_n (s := 5) (by decide) (show d * 32 < 2147483648 by omega)
    have hq' : w = ((1024 * q : Nat) : Int) := hq
    rw [s1, hq', or_n (by omega) (by omega), ← Nat.two_pow_add_eq_or_of_lt (i := 10) (show d * 32 < 1024 by omega) q]
    show ((1024 * q + d * 32 : Nat) : Int) = ((1024 * q : Nat) : Int) + (d : Int) * 32
    omega
  · have s1 : shl32 (d : Int) (5 * (5 - ((5 : Nat) : Int))) = ((d * 1 : Nat) : Int) := shl_n (s := 0) (by decide) (show d * 1 < 2147483648 by omega)
    have hq' : w = ((32 * q : Nat) : Int) := hq
    rw [s1, hq', or_n (by omega) (by omega), ← Nat.two_pow_add_eq_or_of_lt (i := 5) (show d * 1 < 32 by omega) q]
    show ((32 * q + d * 1 : Nat) : Int) = ((32 * q : Nat) : Int) + (d : Int) * 1
    omega
theorem C_add {V : ASt} {i ty pl ct : Int} (h4 : V 36 4 = i) (h : 0 ≤ i ∧ i < 1801) : Tr (f_Tokens_add S0 V 36 ty pl ct) (fun r U => r = ty ∧ U 36 = upI (V 36) 4 (i + 1) ∧ U 38 = upI (V 38) i ty ∧ U 39 = upI (V 39) i pl ∧ U 40 = upI (V 40) i ct ∧ ∀ a, a ≠ 36 → a ≠ 38 → a ≠ 39 → a ≠ 40 → U a = V a) := by
  unfold f_Tokens_add
  rw [gd_t O_36, h4]
  refine Tr_f (by omega) ?_
  rw [F_36_1, A_38, gd_in (by omega) (by omega)]
  refine Tr_set (fun V1 e1 n1 => ?_)
  rw [n1 36 (by decide), h4, F_36_2, A_39, gd_in (by omega) (by omega)]
  refine Tr_set (fun V2 e2 n2 => ?_)
  rw [n2 36 (by decide), n1 36 (by decide), h4, F_36_3, A_40, gd_in (by omega) (by omega)]
  refine Tr_set (fun V3 e3 n3 => ?_)
  rw [n3 36 (by decide), n2 36 (by decide), n1 36 (by decide), h4, w32_id (by omega) (by omega)]
  refine Tr_set (fun V4 e4 n4 => Tr_ret ⟨rfl, ?_, ?_, ?_, ?_, fun a a1 a2 a3 a4 => ?_⟩)
  · rw [e4, n3 36 (by decide), n2 36 (by decide), n1 36 (by decide)]
  · rw [n4 38 (by decide), n3 38 (by decide), n2 38 (by decide), e1]
  · rw [n4 39 (by decide), n3 39 (by decide), e2, n1 39 (by decide)]
  · rw [n4 40 (by decide), e3, n2 40 (by decide), n1 40 (by decide)]
  · rw [n4 a a1, n3 a a4, n2 a a3, n1 a a2]
-- ---- own words
def ownL (ls : List Int) : List (List Int) → Int → Int → Int
  | [], _, d => d
  | w :: r, i, d => ownL ls r (i + 1) (if ls = w then i else d)
theorem ownL_e (ls : List Int) : ∀ (r : List (List Int)) (i d : Int), r.Nodup → (ls ∉ r → ownL ls r i d = d ∧ ownI ls r i = 2) ∧ (ls ∈ r → ownL ls r i d = ownI ls r i) := by
  intro r
  induction r with
  | nil => intro i d _; exact ⟨fun _ => ⟨rfl, rfl⟩, fun h => by cases h⟩
  | cons w r ih =>
    intro i d hn
    rw [List.nodup_cons] at hn
    rw [ownL, ownI]
    obtain ⟨a, b⟩ := ih (i + 1) (if ls = w then i else d) hn.2
    refine ⟨fun h => ?_, fun h => ?_⟩
    · have h1 : ls ≠ w := fun e => h (by rw [e]; exact List.mem_cons_self)
      have h2 : ls ∉ r := fun e => h (List.mem_cons_of_mem _ e)
      have := a h2
      rw [if_neg h1] at this ⊢
      rw [if_neg h1]
      exact this
    · by_cases c : ls = w
      · have h2 : ls ∉ r := by rw [c]; exact hn.1
        have := (a h2).1
        rw [if_pos c] at this ⊢
        rw [if_pos c]; exact this
      · have h2 : ls ∈ r := by
          rw [List.mem_cons] at h
          exact h.resolve_left c
        have := b h2
        rw [if_neg c] at this ⊢
        rw [if_neg c]; exact this
theorem ownW_n : ownW.Nodup := by decide
theorem ownT_L (ls : List Int) : ownL ls ownW 256 2 = ownT ls := by
  unfold ownT
  obtain ⟨a, b⟩ := ownL_e ls ownW 256 2 ownW_n
  by_cases c : ls ∈ ownW
  · exact b c
  · rw [(a c).1, (a c).2]
theorem ownW_nm : ∀ w, w ∈ ownW → nmL w := by
  intro w hw
  unfold ownW at hw
  simp only [List.mem_cons, List.not_mem_nil, or_false] at hw
  rcases hw with e | e | e | e | e | e | e | e | e | e | e | e | e | e | e | e | e | e | e | e | e | e | e <;> subst e <;> exact ⟨by decide, by decide, by decide⟩
theorem ocd_w : ∀ i : Nat, i < 23 → ocd (i : Int) = nm32 (ownW.getD i []) 33554432 := by decide
