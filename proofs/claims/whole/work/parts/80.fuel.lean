/-! the grammar comes to an end -/
theorem nine_sq {a : R3} {f : Int → R3} (h : a.1 ≠ 9) (h2 : a.1 = 0 → (f a.2.1).1 ≠ 9) : (sqR a f).1 ≠ 9 := by
  by_cases c : a.1 = 0
  · rw [sqR_o c]
    by_cases d : (f a.2.1).1 = 0
    · rw [if_pos d]; exact (by decide : (0 : Int) ≠ 9)
    · rw [if_neg d]; exact h2 c
  · rw [sqR_f c]; exact h
theorem nine_fl {K : TKs} {kd k : Int} (h : kd ≠ 9) : (flR K kd k).1 ≠ 9 := h
theorem nine_ok {k : Int} {w : CDs} : (okR k w).1 ≠ 9 := (by decide : (0 : Int) ≠ 9)
def rkN (nt : Nat) : Int := if nt = 0 then 8 else if nt = 2 then 7 else if nt = 4 then 6 else if nt = 11 then 5 else if nt = 5 then 4 else if nt = 6 then 3 else if nt = 8 then 2 else if nt = 10 then 1 else 0
theorem rkN_r (nt : Nat) : 0 ≤ rkN nt ∧ rkN nt ≤ 8 := by
  unfold rkN
  by_cases a : nt = 0
  · rw [if_pos a]; decide
  rw [if_neg a]
  by_cases b : nt = 2
  · rw [if_pos b]; decide
  rw [if_neg b]
  by_cases c : nt = 4
  · rw [if_pos c]; decide
  rw [if_neg c]
  by_cases d : nt = 11
  · rw [if_pos d]; decide
  rw [if_neg d]
  by_cases e : nt = 5
  · rw [if_pos e]; decide
  rw [if_neg e]
  by_cases f : nt = 6
  · rw [if_pos f]; decide
  rw [if_neg f]
  by_cases g : nt = 8
  · rw [if_pos g]; decide
  rw [if_neg g]
  by_cases h : nt = 10
  · rw [if_pos h]; decide
  · rw [if_neg h]; decide
theorem ps_fuel {K : TKs} {ns : List (List Int)} {N : Int} (hN : lsT K N) : ∀ (m nt : Nat) (k o : Int), k ≤ N → 16 * (N - k) + rkN nt < m → (ps K ns m nt k o).1 ≠ 9 := by
  intro m
  induction m with
  | zero => intro nt k o h1 h2; have := rkN_r nt; omega
  | succ m ih =>
    intro nt k o hk hm
    have hlt : ∀ j, j ≤ N → K.1 j ≠ 0 → K.1 j ≠ 1 → j < N := fun j a b c => lt_of_t hN a b c
    have later : ∀ (q : Nat) (j p : Int), k < j → j ≤ N → (ps K ns m q j p).1 ≠ 9 := fun q j p h1 h2 => ih q j p h2 (by have := rkN_r q; have := rkN_r nt; omega)
    have av : ∀ (q : Nat) (j p : Int), j ≤ N → lpN q = 1 → (ps K ns m q j p).1 = 0 → j < (ps K ns m q j p).2.1 ∧ (ps K ns m q j p).2.1 ≤ N := fun q j p h1 h2 h3 => by
      have := ps_adv (ns := ns) hN m q j p h1 h3
      omega
    have two : ∀ (q u : Nat), lpN q = 1 → (ps K ns m q k o).1 ≠ 9 → (sqR (ps K ns m q k o) (fun j => ps K ns m u j o)).1 ≠ 9 := fun q u hq h => nine_sq h (fun z => by
      have := av q k o hk hq z
      exact later u _ o this.1 this.2)
    have go : ∀ (q u : Nat) (c : Int × Int), lpN q = 1 → K.1 k ≠ 0 → K.1 k ≠ 1 → (sqR (sqR (ps K ns m q (k + 1) o) (fun j => okR j [c])) (fun j => ps K ns m u j o)).1 ≠ 9 := fun q u c hq h1 h2 => by
      have hkN := hlt k hk h1 h2
      refine nine_sq (nine_sq (later q (k + 1) o (by omega) (by omega)) (fun _ => nine_ok)) (fun z => ?_)
      by_cases y : (ps K ns m q (k + 1) o).1 = 0
      · have := av q (k + 1) o (by omega) hq y
        rw [sqR_ok y]
        exact later u _ o (by show k < (ps K ns m q (k + 1) o).2.1; omega) this.2
      · rw [sqR_f y] at z; exact absurd z y
    have cl : ∀ (j c : Int), (if K.1 j = c then okR (j + 1) [] else flR K 1 j).1 ≠ 9 := fun j c => by
      by_cases z : K.1 j = c
      · rw [if_pos z]; exact nine_ok
      · rw [if_neg z]; exact nine_fl (by decide)
    by_cases e0 : nt = 0
    · subst e0
      exact two 2 1 rfl (ih 2 k o hk (by have h1 : rkN 0 = 8 := rfl; have h2 : rkN 2 = 7 := rfl; omega))
    by_cases e1 : nt = 1
    · subst e1
      show (if K.1 k = 271 then _ else _ : R3).1 ≠ 9
      by_cases c : K.1 k = 271
      · rw [if_pos c]; exact go 2 1 (21, 0) rfl (by omega) (by omega)
      · rw [if_neg c]; exact nine_ok
    by_cases e2 : nt = 2
    · subst e2
      exact two 4 3 rfl (ih 4 k o hk (by have h1 : rkN 2 = 7 := rfl; have h2 : rkN 4 = 6 := rfl; omega))
    by_cases e3 : nt = 3
    · subst e3
      show (if K.1 k = 272 then _ else _ : R3).1 ≠ 9
      by_cases c : K.1 k = 272
      · rw [if_pos c]; exact go 4 3 (20, 0) rfl (by omega) (by omega)
      · rw [if_neg c]; exact nine_ok
    by_cases e4 : nt = 4
    · subst e4
      show (ntR (ntC K.1 2000 k) (ps K ns m 11 (k + ntC K.1 2000 k) o)).1 ≠ 9
      have hc := ntC_r (ty := K.1) (N := N) (by unfold lsT at hN; omega) 2000 k hk
      have h9 : (ps K ns m 11 (k + ntC K.1 2000 k) o).1 ≠ 9 := ih 11 _ o hc (by have h1 : rkN 4 = 6 := rfl; have h2 : rkN 11 = 5 := rfl; omega)
      unfold ntR
      by_cases z : (ps K ns m 11 (k + ntC K.1 2000 k) o).1 = 0
      · rw [if_pos z]; exact (by decide : (0 : Int) ≠ 9)
      · rw [if_neg z]; exact h9
    by_cases e5 : nt = 5
    · subst e5
      rw [ps, if_neg (by decide), if_neg (by decide), if_neg (by decide), if_neg (by decide), if_neg (by decide), if_pos rfl]
      refine nine_sq (ih 6 k o hk (by have h1 : rkN 5 = 4 := rfl; have h2 : rkN 6 = 3 := rfl; omega)) (fun z => ?_)
      have hj := av 6 k o hk rfl z
      generalize (ps K ns m 6 k o).2.1 = j at *
      have one : ∀ c : Int × Int, K.1 j ≠ 0 → K.1 j ≠ 1 → (sqR (ps K ns m 6 (j + 1) o) (fun i => okR i [c])).1 ≠ 9 := fun c h1 h2 => by
        have := hlt j hj.2 h1 h2
        exact nine_sq (later 6 (j + 1) o (by omega) (by omega)) (fun _ => nine_ok)
      by_cases c1 : K.1 j = 60
      · rw [if_pos c1]; exact one _ (by omega) (by omega)
      rw [if_neg c1]
      by_cases c2 : K.1 j = 62
      · rw [if_pos c2]; exact one _ (by omega) (by omega)
      rw [if_neg c2]
      by_cases c3 : K.1 j = 61
      · rw [if_pos c3]; exact one _ (by omega) (by omega)
      · rw [if_neg c3]; exact nine_fl (by decide)
    by_cases e6 : nt = 6
    · subst e6
      exact two 8 7 rfl (ih 8 k o hk (by have h1 : rkN 6 = 3 := rfl; have h2 : rkN 8 = 2 := rfl; omega))
    by_cases e7 : nt = 7
    · subst e7
      show (if K.1 k = 43 then _ else if K.1 k = 45 then _ else _ : R3).1 ≠ 9
      by_cases c : K.1 k = 43
      · rw [if_pos c]; exact go 8 7 (10, 0) rfl (by omega) (by omega)
      · rw [if_neg c]
        by_cases c2 : K.1 k = 45
        · rw [if_pos c2]; exact go 8 7 (11, 0) rfl (by omega) (by omega)
        · rw [if_neg c2]; exact nine_ok
    by_cases e8 : nt = 8
    · subst e8
      exact two 10 9 rfl (ih 10 k o hk (by have h1 : rkN 8 = 2 := rfl; have h2 : rkN 10 = 1 := rfl; omega))
    by_cases e9 : nt = 9
    · subst e9
      show (if K.1 k = 42 then _ else if K.1 k = 47 then _ else if K.1 k = 37 then _ else _ : R3).1 ≠ 9
      by_cases c : K.1 k = 42
      · rw [if_pos c]; exact go 10 9 (12, 0) rfl (by omega) (by omega)
      · rw [if_neg c]
        by_cases c2 : K.1 k = 47
        · rw [if_pos c2]; exact go 10 9 (13, 0) rfl (by omega) (by omega)
        · rw [if_neg c2]
          by_cases c3 : K.1 k = 37
          · rw [if_pos c3]; exact go 10 9 (14, 0) rfl (by omega) (by omega)
          · rw [if_neg c3]; exact nine_ok
    by_cases e10 : nt = 10
    · subst e10
      show (if K.1 k = 40 then _ else if K.1 k = 3 then _ else if K.1 k = 274 then _ else if K.1 k = 275 then _ else if K.1 k = 276 then _ else if K.1 k = 277 then _ else if K.1 k = 278 then _ else if K.1 k = 2 then _ else _ : R3).1 ≠ 9
      by_cases c : K.1 k = 40
      · rw [if_pos c]
        by_cases d : o = 8
        · rw [if_pos d]; exact nine_fl (by decide)
        · rw [if_neg d]
          have := hlt k hk (by omega) (by omega)
          exact nine_sq (later 6 (k + 1) (o + 1) (by omega) (by omega)) (fun _ => cl _ _)
      rw [if_neg c]
      by_cases c1 : K.1 k = 3
      · rw [if_pos c1]; exact nine_ok
      rw [if_neg c1]
      by_cases c2 : K.1 k = 274
      · rw [if_pos c2]; exact nine_ok
      rw [if_neg c2]
      by_cases c3 : K.1 k = 275
      · rw [if_pos c3]; exact nine_ok
      rw [if_neg c3]
      by_cases c4 : K.1 k = 276
      · rw [if_pos c4]; exact nine_ok
      rw [if_neg c4]
      by_cases c5 : K.1 k = 277
      · rw [if_pos c5]
        have := hlt k hk (by omega) (by omega)
        exact later 12 (k + 1) o (by omega) (by omega)
      rw [if_neg c5]
      by_cases c6 : K.1 k = 278
      · rw [if_pos c6]
        have := hlt k hk (by omega) (by omega)
        exact later 13 (k + 1) o (by omega) (by omega)
      rw [if_neg c6]
      by_cases c7 : K.1 k = 2
      · rw [if_pos c7]
        by_cases d : pixF (K.2.2.1 k) ns 0 = -1
        · rw [if_pos d]; exact nine_fl (by decide)
        · rw [if_neg d]; exact nine_ok
      · rw [if_neg c7]; exact nine_fl (by decide)
    by_cases e11 : nt = 11
    · subst e11
      show (if K.1 k = 91 then _ else if K.1 k = 273 then _ else ps K ns m 5 k o : R3).1 ≠ 9
      by_cases c : K.1 k = 91
      · rw [if_pos c]
        by_cases d : o = 8
        · rw [if_pos d]; exact nine_fl (by decide)
        · rw [if_neg d]
          have := hlt k hk (by omega) (by omega)
          exact nine_sq (later 0 (k + 1) (o + 1) (by omega) (by omega)) (fun _ => cl _ _)
      rw [if_neg c]
      by_cases c1 : K.1 k = 273
      · rw [if_pos c1]; exact nine_ok
      · rw [if_neg c1]; exact ih 5 k o hk (by have h1 : rkN 11 = 5 := rfl; have h2 : rkN 5 = 4 := rfl; omega)
    · rw [ps, if_neg e0, if_neg e1, if_neg e2, if_neg e3, if_neg e4, if_neg e5, if_neg e6, if_neg e7, if_neg e8, if_neg e9, if_neg e10, if_neg e11]
      by_cases c : K.1 k = 40
      · rw [if_pos c]
        by_cases d : o = 8
        · rw [if_pos d]; exact nine_fl (by decide)
        rw [if_neg d]
        have hkN := hlt k hk (by omega) (by omega)
        refine nine_sq (later 6 (k + 1) (o + 1) (by omega) (by omega)) (fun z => ?_)
        have hj := av 6 (k + 1) (o + 1) (by omega) rfl z
        generalize (ps K ns m 6 (k + 1) (o + 1)).2.1 = j at *
        by_cases c1 : K.1 j = 44
        · rw [if_pos c1]
          have hjN := hlt j hj.2 (by omega) (by omega)
          refine nine_sq (later 6 (j + 1) (o + 1) (by omega) (by omega)) (fun z2 => ?_)
          generalize (ps K ns m 6 (j + 1) (o + 1)).2.1 = i at *
          by_cases c2 : K.1 i = 41
          · rw [if_pos c2]; exact nine_ok
          · rw [if_neg c2]; exact nine_fl (by decide)
        · rw [if_neg c1]; exact nine_fl (by decide)
      · rw [if_neg c]; exact nine_fl (by decide)
