/-! the class's moves: laying them out -/
def gI (G : GM) (t : Int) (V : ASt) : Prop := dG G t V ∧ dN G t V ∧ dX G t V ∧ dT G t V
theorem gI_M {G : GM} {m t : Int} {V U : ASt} (hm : isMv m) (ht : isGm t) (h : ∀ a, (a < m ∨ m + 11 < a) → U a = V a) (g : gI G t V) : gI G t U := by
  have h1 := hm
  have h2 := ht
  unfold isMv at h1
  unfold isGm at h2
  exact ⟨dG_fr (h t (by omega)) (fun o _ _ => h _ (by omega)) g.1, dN_fr (h t (by omega)) (fun o _ _ => h _ (by omega)) g.2.1, dX_fr (h _ (by omega)) g.2.2.1, dT_fr (fun o _ _ => h _ (by omega)) g.2.2.2⟩
theorem gI_H {G : GM} {t : Int} {V U : ASt} (hx : dX G t U) (h : ∀ a, a ≠ t + 4 → a ≠ t + 15 → U a = V a) (g : gI G t V) : gI G t U :=
  ⟨dG_fr (h t (by omega) (by omega)) (fun o _ _ => h _ (by omega) (by omega)) g.1, dN_fr (h t (by omega) (by omega)) (fun o _ _ => h _ (by omega) (by omega)) g.2.1, hx, dT_fr (fun o _ _ => h _ (by omega) (by omega)) g.2.2.2⟩
def lawL (G : GM) (s : SL) (p k g : Int) : List Int → Int
  | [] => 0
  | r :: l => if goalQ G s r (spt G p k) = g ∧ hold G r p k g = 1 then (if kNow G s r = 0 then 1 else 0) else lawL G s p k g l
def leadL (G : GM) (s : SL) (p k g : Int) : List Int → Int
  | [] => beh G p k g
  | r :: l => if hold G r p k g = 1 then (if kNow G s r = 2 then -1 else -2) else leadL G s p k g l
theorem lawS_L (G : GM) (s : SL) (p k g : Int) : ∀ n, lawS G s p k g n = lawL G s p k g (spR G s k n) := by
  intro n
  induction n with
  | zero => rfl
  | succ n ih =>
    rw [lawS, spR]
    by_cases c : sX s (sA s n) = 0 ∧ qK G (sA s n) < 2 ∧ qI G (sA s n) = k
    · rw [if_pos c, lawL]
      by_cases d : goalQ G s (sA s n) (spt G p k) = g ∧ hold G (sA s n) p k g = 1
      · rw [if_pos d, if_pos ⟨c.1, c.2.1, c.2.2, d.1, d.2⟩]
      · rw [if_neg d, if_neg (fun z => d ⟨z.2.2.2.1, z.2.2.2.2⟩), ih]
    · rw [if_neg c, if_neg (fun z => c ⟨z.1, z.2.1, z.2.2.1⟩), ih]
theorem leadS_L (G : GM) (s : SL) (p k g : Int) : ∀ n, leadS G s p k g n = leadL G s p k g (enR G s n) := by
  intro n
  induction n with
  | zero => rfl
  | succ n ih =>
    rw [leadS, enR]
    by_cases c : sX s (sA s n) = 0 ∧ 2 ≤ qK G (sA s n)
    · rw [if_pos c, leadL]
      by_cases d : hold G (sA s n) p k g = 1
      · rw [if_pos d, if_pos ⟨c.1, c.2, d⟩]
      · rw [if_neg d, if_neg (fun z => d z.2.2), ih]
    · rw [if_neg c, if_neg (fun z => c ⟨z.1, z.2.1⟩), ih]
theorem bit_e (n i : Nat) : (n >>> i) % 2 = (if n.testBit i = true then 1 else 0) := by
  have h : (n >>> i).testBit 0 = n.testBit i := by rw [Nat.testBit_shiftRight, Nat.add_zero]
  rw [Nat.testBit_zero] at h
  rw [← h]
  by_cases c : (n >>> i) % 2 = 1
  · rw [decide_eq_true c, if_pos rfl]; exact c
  · rw [decide_eq_false c, if_neg (by decide)]; omega
theorem goal_e {G : GM} {s : SL} (hG : GOK G) (hs : SOK G s) {r x : Int} (h0 : 0 ≤ r) (hr : r < qR G) (k2 : qK G r < 2) : goalQ G s r x = if shf G s r = 0 then qF G else fOr G (x + shf G s r) := by
  have n := hs.2.2 r h0 hr
  have q := (hG.2.2.2.2.2.2.1 r h0 hr).2.2.2.1 k2
  unfold goalQ shf
  by_cases w2 : qW G r = 2
  · have := n.2.2.2 (fun z => z.2 w2)
    rw [if_pos w2, if_neg (show ¬ (qW G r = 1) by omega), if_pos this]
  · have := n.2.2.1 ⟨k2, w2⟩
    rw [if_neg w2]
    by_cases w0 : qW G r = 0
    · rw [if_pos w0, if_neg (show ¬ (qW G r = 1) by omega), if_neg (by omega)]
    · rw [if_neg w0, if_pos (show qW G r = 1 by omega), if_neg (by omega)]; rfl
theorem goalQ_r {G : GM} (hG : GOK G) (s : SL) (r x : Int) : goalQ G s r x = -1 ∨ (0 ≤ goalQ G s r x ∧ goalQ G s r x ≤ qF G) := by
  have := hG.1
  unfold goalQ fOr
  by_cases w2 : qW G r = 2
  · rw [if_pos w2]; omega
  · rw [if_neg w2]
    by_cases w0 : qW G r = 0
    · rw [if_pos w0]
      by_cases z : 0 ≤ x + sN s r ∧ x + sN s r < qF G
      · rw [if_pos z]; omega
      · rw [if_neg z]; omega
    · rw [if_neg w0]
      by_cases z : 0 ≤ x - sN s r ∧ x - sN s r < qF G
      · rw [if_pos z]; omega
      · rw [if_neg z]; omega
/-- decided and goals, so far -/
def mk (G : GM) (s : SL) (p k : Int) (l : List Int) (D E : Nat) (i : Nat) : Prop := D < 1024 ∧ E < 1024 ∧ (∀ g : Nat, g < 10 → (E.testBit g = true → D.testBit g = true) ∧ lawL G s p k g l = if D.testBit g = true then (if E.testBit g = true then 1 else 0) else lawL G s p k g (l.drop i))
theorem drop_cons {l : List Int} {i : Nat} (h : i < l.length) : l.drop i = l.getD i 0 :: l.drop (i + 1) := by
  rw [getD_e h]; exact List.drop_eq_getElem_cons h
theorem lp_L28 {G : GM} {s : SL} {m t p k : Int} {V : ASt} (hG : GOK G) (hs : SOK G s) (hm : isMv m) (ht : isGm t) (hg : gI G t V) (hP : dP G s m t V) (hF : qF G ≠ 0) (hp : 0 ≤ p ∧ p < qPos G) (hk : 0 ≤ k ∧ k < qP G) {Q : Int → ASt → Prop}
    (hK : ∀ (W : ASt) (D E : Nat), dX G t W → (∀ a, a ≠ t + 4 → a ≠ t + 15 → W a = V a) → mk G s p k (spR G s k (qR G).toNat) D E (spR G s k (qR G).toNat).length → Tr (b_Moves_layPiece_L172 S0 m p k E FU W 0) Q) :
    ∀ (n i : Nat) (W : ASt) (D E : Nat), i ≤ (spR G s k (qR G).toNat).length → (spR G s k (qR G).toNat).length - i < n → dX G t W → (∀ a, a ≠ t + 4 → a ≠ t + 15 → W a = V a) → mk G s p k (spR G s k (qR G).toNat) D E i → Tr (b_Moves_layPiece_L28 S0 m p k (spt G p k) n W D E (12 * k + i)) Q := by
  have hmm := hm
  have htt := ht
  unfold isMv at hmm
  unfold isGm at htt
  have hR := hG.2.2.1
  have hP2 := hG.2.1
  have hFr := hG.1
  have hle := spR_le G s k (qR G).toNat
  have sp := spt_r hG p k hp.1
  intro n
  induction n with
  | zero => intro i W D E h1 h2; omega
  | succ n ih =>
    intro i W D E hi hn xW fW hmk
    have gW : gI G t W := gI_H xW fW hg
    have hspH : spH G s m V k (spR G s k (qR G).toNat) := by
      have : k = 0 ∨ k = 1 := by omega
      rcases this with e | e <;> subst e
      · exact hP.2.1
      · exact hP.2.2.1
    have c9 : W (m + 9) = V (m + 9) := fW _ (by omega) (by omega)
    have c6 : W (m + 6) = V (m + 6) := fW _ (by omega) (by omega)
    have c7 : W (m + 7) = V (m + 7) := fW _ (by omega) (by omega)
    have c8 : W (m + 8) = V (m + 8) := fW _ (by omega) (by omega)
    have cm : W m 2 = t := by rw [fW m (by omega) (by omega)]; exact hP.1
    rw [b_Moves_layPiece_L28, FM_11 hm, AM9 hm, gd_in (by omega) (by omega), c9, hspH.1, w32_id (x := k * 12) (by omega) (by omega), w32_id (x := k * 12 + ((spR G s k (qR G).toNat).length : Int)) (by omega) (by omega)]
    refine Tr_if (fun c => ?_) (fun c => ?_)
    · have : i = (spR G s k (qR G).toNat).length := by omega
      subst this
      exact hK W D E xW fW hmk
    have hil : i < (spR G s k (qR G).toNat).length := by omega
    have hrow := hspH.2 i hil
    have hmem := spR_mem hs (qR G).toNat (by omega) (getD_mem hil)
    have hdrop := drop_cons hil
    have ihh := fun W D E => ih (i + 1) W D E (by omega) (by omega)
    rw [show (12 * k + ((i + 1 : Nat) : Int)) = 12 * k + (i : Int) + 1 by omega] at ihh
    rw [FM_9 hm, AM7 hm, gd_in (by omega) (by omega), c7, hrow.2.1, cm, gd_t (OG ht), gW.1.1]
    generalize hr : (spR G s k (qR G).toNat).getD i 0 = r at *
    have hge := goal_e hG hs (x := spt G p k) hmem.1 hmem.2.1 hmem.2.2.1
    have hgr := goalQ_r hG s r (spt G p k)
    have shr := sN_r hs hmem.1 hmem.2.1
    obtain ⟨m1, m2, m3⟩ := hmk
    -- behind the goal
    have hJ : Tr (b_Moves_layPiece_J80 S0 (b_Moves_layPiece_L28 S0 m p k (spt G p k) n) W m p k (spt G p k) D E (12 * k + i) (goalQ G s r (spt G p k))) Q := by
      generalize hγ : goalQ G s r (spt G p k) = γ at *
      unfold b_Moves_layPiece_J80 b_Moves_layPiece_J103
      have w1 : w32 (12 * k + (i : Int) + 1) = 12 * k + (i : Int) + 1 := w32_id (by omega) (by omega)
      have same : (∀ g : Nat, g < 10 → D.testBit g = false → ¬ (γ = (g : Int) ∧ hold G r p k g = 1)) → ∀ U : ASt, dX G t U → (∀ a, a ≠ t + 4 → a ≠ t + 15 → U a = V a) → Tr (b_Moves_layPiece_L28 S0 m p k (spt G p k) n U D E (w32 (12 * k + (i : Int) + 1))) Q := by
        intro hno U xU fU
        rw [w1]
        refine ihh U D E xU fU ⟨m1, m2, fun g hg10 => ⟨(m3 g hg10).1, ?_⟩⟩
        rw [(m3 g hg10).2]
        cases hb : D.testBit g with
        | true => rfl
        | false =>
          rw [if_neg (by decide), if_neg (by decide), hdrop, lawL, hγ, if_neg (hno g hg10 hb)]
      refine Tr_if (fun c1 => ?_) (fun c1 => ?_)
      · refine Tr_t rfl (same (fun g _ _ z => by omega) W xW fW)
      have hγ0 : 0 ≤ γ ∧ γ ≤ 9 := by omega
      have hγn : ((γ.toNat : Nat) : Int) = γ := cast_t hγ0.1
      have hsr : and32 (shr32 D γ) 1 = (if D.testBit γ.toNat = true then 1 else 0 : Int) := by
        have h1 : shr32 D γ = ((D >>> γ.toNat : Nat) : Int) := by rw [← shr_n (by omega) (by omega), hγn]
        rw [h1, and32_1, show ((D >>> γ.toNat : Nat) : Int) % 2 = (((D >>> γ.toNat) % 2 : Nat) : Int) by omega, bit_e]
        cases D.testBit γ.toNat <;> rfl
      rw [hsr]
      cases hb : D.testBit γ.toNat with
      | true =>
        refine Tr_f (by decide) (Tr_t rfl (same (fun g _ hg2 z => ?_) W xW fW))
        have : γ.toNat = g := by omega
        rw [this, hg2] at hb; cases hb
      | false =>
        refine Tr_t rfl (Tr_f (by decide) ?_)
        rw [FM_8 hm, AM6 hm, gd_in (by omega) (by omega), c6, hrow.1, cm, gd_t (OG ht)]
        refine Tr_bnd (G_holds hG ht gW.1 gW.2.1 gW.2.2.1 gW.2.2.2 hmem.1 hmem.2.1 hp hk hγ0) ?_
        rintro x U ⟨hx, xU, fU'⟩
        have fU : ∀ a, a ≠ t + 4 → a ≠ t + 15 → U a = V a := fun a a1 a2 => by rw [fU' a a1 a2, fW a a1 a2]
        have hz := hold_r hG r p k γ
        refine Tr_if (fun c2 => ?_) (fun c2 => ?_)
        · refine same (fun g _ _ z => ?_) U xU fU
          rw [← z.1] at z; omega
        have hone : hold G r p k γ = 1 := by omega
        have u8 : U (m + 8) = V (m + 8) := fU _ (by omega) (by omega)
        have hs1 : shl32 1 γ = ((2 ^ γ.toNat : Nat) : Int) := by rw [← shl1 (by omega), hγn]
        have h10 : 2 ^ γ.toNat ≤ 2 ^ 9 := Nat.pow_le_pow_right (by decide) (by omega)
        rw [FM_10 hm, AM8 hm, gd_in (by omega) (by omega), u8, hrow.2.2, hs1, or_n (by omega) (by omega), w1]
        have hEf : E.testBit γ.toNat = false := by
          cases he : E.testBit γ.toNat with
          | false => rfl
          | true => rw [(m3 γ.toNat (by omega)).1 he] at hb; cases hb
        have hnew : ∀ (z : Nat), (z = 0 ∧ kNow G s r ≠ 0) ∨ (z = 2 ^ γ.toNat ∧ kNow G s r = 0) → mk G s p k (spR G s k (qR G).toNat) (D ||| 2 ^ γ.toNat) (E ||| z) (i + 1) := by
          intro z hzz
          have hzlt : z < 2 ^ 10 := by rcases hzz with ⟨a, -⟩ | ⟨a, -⟩ <;> omega
          refine ⟨Nat.or_lt_two_pow (n := 10) m1 (by omega), Nat.or_lt_two_pow (n := 10) m2 hzlt, fun g hg10 => ?_⟩
          have hzb : g ≠ γ.toNat → z.testBit g = false := fun hne => by
            rcases hzz with ⟨a, -⟩ | ⟨a, -⟩
            · rw [a]; exact Nat.zero_testBit g
            · rw [a, Nat.testBit_two_pow, decide_eq_false (by omega)]
          rw [Nat.testBit_or, Nat.testBit_or, Nat.testBit_two_pow]
          by_cases hgg : g = γ.toNat
          · subst hgg
            rw [hb, hEf, decide_eq_true rfl, Bool.false_or, Bool.false_or, if_pos rfl]
            refine ⟨fun _ => rfl, ?_⟩
            rw [(m3 γ.toNat hg10).2, hb, if_neg (by decide), hdrop, lawL, hγ, hγn, if_pos ⟨rfl, hone⟩]
            rcases hzz with ⟨a, b⟩ | ⟨a, b⟩
            · rw [a, if_neg b, Nat.zero_testBit, if_neg (by decide)]
            · rw [a, if_pos b, Nat.testBit_two_pow, decide_eq_true rfl, if_pos rfl]
          · rw [decide_eq_false (by omega), hzb hgg, Bool.or_false, Bool.or_false]
            refine ⟨(m3 g hg10).1, ?_⟩
            rw [(m3 g hg10).2]
            cases hbg : D.testBit g with
            | true => rfl
            | false =>
              rw [if_neg (by decide), if_neg (by decide), hdrop, lawL, hγ, if_neg (by omega)]
        refine Tr_if (fun c3 => ?_) (fun c3 => ?_)
        · have hk0 : kNow G s r ≠ 0 := fun z => by rw [if_pos z] at c3; omega
          have e0 : or32 (E : Int) 0 = ((E ||| 0 : Nat) : Int) := or_n (m := 0) (by omega) (by omega)
          rw [e0]
          exact ihh U _ _ xU fU (hnew 0 (Or.inl ⟨rfl, hk0⟩))
        · have hk0 : kNow G s r = 0 := Classical.byContradiction fun z => by rw [if_neg z] at c3; exact c3 rfl
          rw [or_n (by omega) (by omega)]
          exact ihh U _ _ xU fU (hnew _ (Or.inr ⟨rfl, hk0⟩))
    refine Tr_if (fun c1 => ?_) (fun c1 => ?_)
    · rw [hge, if_pos c1] at hJ
      exact hJ
    · rw [hge, if_neg c1] at hJ
      have : -3 ≤ shf G s r ∧ shf G s r ≤ 3 := by
        unfold shf
        by_cases z : qW G r = 1
        · rw [if_pos z]; omega
        · rw [if_neg z]; omega
      rw [w32_id (x := spt G p k + shf G s r) (by omega) (by omega)]
      refine Tr_bq (G_fieldOrNone ht gW.1 _) ?_
      exact hJ
