/-! what the machine asks of the tokens of a tape -/
theorem sbl_l (T : Int → Int) : ∀ (m : Nat) (a : Int), (sbl T m a).length = m := by
  intro m
  induction m with
  | zero => intro a; rfl
  | succ m ih => intro a; rw [sbl, List.length_cons, ih]
theorem nk_4 {T : Int → Int} {n N : Int} (hn : 0 ≤ n) (hL : lstK T n N) : ∀ k : Nat, (k : Int) ≤ N → 4 * nk (tkK T n) (k : Int) ≤ eK T n k + 1 ∧ (¬ jnd T (eK T n k) → 4 * nk (tkK T n) (k : Int) ≤ eK T n k) := by
  intro k
  induction k with
  | zero => intro _; exact ⟨by show (4 : Int) * 0 ≤ 0 + 1; decide, fun _ => by show (4 : Int) * 0 ≤ 0; decide⟩
  | succ k ih =>
    intro hk
    obtain ⟨i1, i2⟩ := ih (by omega)
    have ht := hL.2.2.1 (k : Int) (by omega) (by omega)
    have hen := eK_n hn hL (show (0 : Int) ≤ (k : Int) by omega) (by omega)
    unfold kT at ht
    rw [show ((k : Int)).toNat = k by omega] at ht hen
    have hg := tk_good (T := T) (n := n) (e := eK T n k) (by omega) hen.2 ht.1 ht.2
    have hnk : nk (tkK T n) ((k + 1 : Nat) : Int) = nk (tkK T n) (k : Int) + (if tkT T n (eK T n k) = 266 then 1 else 0) := by
      unfold nk
      rw [show (((k + 1 : Nat) : Int)).toNat = k + 1 by omega, show ((k : Int)).toNat = k by omega, ncN]
      show _ + (if kT T n (k : Int) = 266 then 1 else 0) = _
      unfold kT
      rw [show ((k : Int)).toNat = k by omega]
    have ha := pA_r (T := T) (show 0 ≤ eK T n k by omega) hen.2
    rw [hnk, eK]
    by_cases c : tkT T n (eK T n k) = 266
    · rw [if_pos c]
      have hj : jnd T (tkE T n (eK T n k)) := ⟨by omega, hg.2.2.mpr (by omega)⟩
      have h3 : tkE T n (eK T n k) = pA T n (eK T n k) + 3 ∧ ¬ jnd T (pA T n (eK T n k)) := by
        rcases tk_c8 T n (eK T n k) with ⟨_, q, _⟩ | ⟨_, _, _, q, _⟩ | ⟨_, _, _, _, q, _⟩ | ⟨q0, q1, q2, q3, q4, q5, q6, _⟩ | ⟨_, _, _, _, _, q, _⟩ | ⟨_, _, _, _, _, q, _⟩ | ⟨_, _, _, q, _⟩
        · omega
        · omega
        · omega
        · refine ⟨?_, q2⟩
          rw [c] at q4
          have hw := (ownT_iff (ls := sbl T (wE T n (pA T n (eK T n k)) - pA T n (eK T n k)).toNat (pA T n (eK T n k))) (i := 10) (by decide)).mp q4.symm
          have hl := congrArg List.length hw
          rw [sbl_l] at hl
          have hl' : (wE T n (pA T n (eK T n k)) - pA T n (eK T n k)).toNat = 3 := hl
          have := wE_n (T := T) (n := n) (a := pA T n (eK T n k)) (by omega) q0 q1
          omega
        · omega
        · omega
        · rcases q with ⟨q1, q2⟩ | ⟨_, q2⟩
          · unfold sgn at q1; omega
          · omega
      refine ⟨?_, fun z => absurd hj z⟩
      by_cases j : jnd T (eK T n k)
      · have : pA T n (eK T n k) ≠ eK T n k := fun z => h3.2 (by rw [z]; exact j)
        omega
      · have := i2 j
        omega
    · rw [if_neg c]
      exact ⟨by omega, fun _ => by omega⟩
theorem mCX_t {T : Int → Int} {n N : Int} (hn : 0 ≤ n ∧ n ≤ 1800) (hL : lstK T n N) : mCX (tkK T n) (kH T n) N := by
  refine ⟨?_, fun k h => kH_1 h, ⟨hL.1, by have := hL.2.1; omega⟩, fun k h0 h1 => ?_⟩
  · exact hL.2.2.2
  · have := (nk_4 hn.1 hL k.toNat (by omega)).1
    have h2 := eK_n hn.1 hL h0 h1
    rw [show ((k.toNat : Nat) : Int) = k by omega] at this
    omega
