/-! the class's moves: laying them out -/
def gI (G : GM) (t : Int) (V : ASt) : Prop := dG G t V ∧ dN G t V ∧ dX G t V ∧ dT G t V
theorem gI_M {G : GM} {m t : Int} {V U : ASt} (hm : isMv m) (ht : isGm t) (h : ∀ a, (a < m ∨ m + 11 < a) → U a = V a) (g : gI G t V) : gI G t U := by
  have h1 := hm
  have h2 := ht
  unfold isMv at h1
  unfold isGm at h2
  exact ⟨dG_fr (h t (by omega)) (fun o _ _ => h _ (by omega)) g.1, dN_fr (h t (by omega)) (fun o _ _ => h _ (by omega)) g.2.1, dX_fr (h _ (by omega)) g.2.2.1, dT_fr (fun o _ _ => h _ (by omega)) g.2.2.2⟩
theorem gI_H {G : GM} {t : Int} {V U : ASt} (hx : dX G t U) (h : ∀ a, a ≠ t + 4 → a ≠ t + 15 → U a = V a) (g : gI G t V) : gI G t U :=
  ⟨dG_fr (h t (by omega) (by omega)) (fun o _ _ => h _ (by omega) (by omega)) g.1, dN_fr (h t (by omega) (by omega)) (fun o _ _ => h _ (by omega) (by omega)) g.2.1, hx, dT_fr (fun o _ _ => h _ (by omega) (by omega)) g.2.2.2⟩
def lawL (G : GM) (s : SL) (p k g : Int) : List Int → Int
  | [] => 0
  | r :: l => if goalQ G s r (spt G p k) = g ∧ hold G r p k g = 1 then (if kNow G s r = 0 then 1 else 0) else lawL G s p k g l
def leadL (G : GM) (s : SL) (p k g : Int) : List Int → Int
  | [] => beh G p k g
  | r :: l => if hold G r p k g = 1 then (if kNow G s r = 2 then -1 else -2) else leadL G s p k g l
theorem lawS_L (G : GM) (s : SL) (p k g : Int) : ∀ n, lawS G s p k g n = lawL G s p k g (spR G s k n) := by
  intro n
  induction n with
  | zero => rfl
  | succ n ih =>
    rw [lawS, spR]
    by_cases c : sX s (sA s n) = 0 ∧ qK G (sA s n) < 2 ∧ qI G (sA s n) = k
    · rw [if_pos c, lawL]
      by_cases d : goalQ G s (sA s n) (spt G p k) = g ∧ hold G (sA s n) p k g = 1
      · rw [if_pos d, if_pos ⟨c.1, c.2.1, c.2.2, d.1, d.2⟩]
      · rw [if_neg d, if_neg (fun z => d ⟨z.2.2.2.1, z.2.2.2.2⟩), ih]
    · rw [if_neg c, if_neg (fun z => c ⟨z.1, z.2.1, z.2.2.1⟩), ih]
theorem leadS_L (G : GM) (s : SL) (p k g : Int) : ∀ n, leadS G s p k g n = leadL G s p k g (enR G s n) := by
  intro n
  induction n with
  | zero => rfl
  | succ n ih =>
    rw [leadS, enR]
    by_cases c : sX s (sA s n) = 0 ∧ 2 ≤ qK G (sA s n)
    · rw [if_pos c, leadL]
      by_cases d : hold G (sA s n) p k g = 1
      · rw [if_pos d, if_pos ⟨c.1, c.2, d⟩]
      · rw [if_neg d, if_neg (fun z => d z.2.2), ih]
    · rw [if_neg c, if_neg (fun z => c ⟨z.1, z.2.1⟩), ih]
theorem bit_e (n i : Nat) : (n >>> i) % 2 = (if n.testBit i = true then 1 else 0) := by
  have h : (n >>> i).testBit 0 = n.testBit i := by rw [Nat.testBit_shiftRight, Nat.add_zero]
  rw [Nat.testBit_zero] at h
  rw [← h]
  by_cases c : (n >>> i) % 2 = 1
  · rw [decide_eq_true c, if_pos rfl]; exact c
  · rw [decide_eq_false c, if_neg (by decide)]; omega
theorem goal_e {G : GM} {s : SL} (hG : GOK G) (hs : SOK G s) {r x : Int} (h0 : 0 ≤ r) (hr : r < qR G) (k2 : qK G r < 2) : goalQ G s r x = if shf G s r = 0 then qF G else fOr G (x + shf G s r) := by
  have n := hs.2.2 r h0 hr
  have q := (hG.2.2.2.2.2.2.1 r h0 hr).2.2.2.1 k2
  unfold goalQ shf
  by_cases w2 : qW G r = 2
  · have := n.2.2.2 (fun z => z.2 w2)
    rw [if_pos w2, if_neg (show ¬ (qW G r = 1) by omega), if_pos this]
  · have := n.2.2.1 ⟨k2, w2⟩
    rw [if_neg w2]
    by_cases w0 : qW G r = 0
    · rw [if_pos w0, if_neg (show ¬ (qW G r = 1) by omega), if_neg (by omega)]
    · rw [if_neg w0, if_pos (show qW G r = 1 by omega), if_neg (by omega)]; rfl
theorem goalQ_r {G : GM} (hG : GOK G) (s : SL) (r x : Int) : goalQ G s r x = -1 ∨ (0 ≤ goalQ G s r x ∧ goalQ G s r x ≤ qF G) := by
  have := hG.1
  unfold goalQ fOr
  by_cases w2 : qW G r = 2
  · rw [if_pos w2]; omega
  · rw [if_neg w2]
    by_cases w0 : qW G r = 0
    · rw [if_pos w0]
      by_cases z : 0 ≤ x + sN s r ∧ x + sN s r < qF G
      · rw [if_pos z]; omega
      · rw [if_neg z]; omega
    · rw [if_neg w0]
      by_cases z : 0 ≤ x - sN s r ∧ x - sN s r < qF G
      · rw [if_pos z]; omega
      · rw [if_neg z]; omega
/-- decided and goals, so far -/
def mk (G : GM) (s : SL) (p k : Int) (l : List Int) (D E : Nat) (i : Nat) : Prop := D < 1024 ∧ E < 1024 ∧ (∀ g : Nat, g < 10 → (E.testBit g = true → D.testBit g = true) ∧ lawL G s p k g l = if D.testBit g = true then (if E.testBit g = true then 1 else 0) else lawL G s p k g (l.drop i))
theorem drop_cons {l : List Int} {i : Nat} (h : i < l.length) : l.drop i = l.getD i 0 :: l.drop (i + 1) := by
  rw [getD_e h]; exact List.drop_eq_getElem_cons h
theorem lp_L28 {G : GM} {s : SL} {m t p k : Int} {V : ASt} (hG : GOK G) (hs : SOK G s) (hm : isMv m) (ht : isGm t) (hg : gI G t V) (hP : dP G s m t V) (hF : qF G ≠ 0) (hp : 0 ≤ p ∧ p < qPos G) (hk : 0 ≤ k ∧ k < qP G) {Q : Int → ASt → Prop}
    (hK : ∀ (W : ASt) (D E : Nat), dX G t W → (∀ a, a ≠ t + 4 → a ≠ t + 15 → W a = V a) → mk G s p k (spR G s k (qR G).toNat) D E (spR G s k (qR G).toNat).length → Tr (b_Moves_layPiece_L172 S0 m p k E FU W 0) Q) :
    ∀ (n i : Nat) (W : ASt) (D E : Nat), i ≤ (spR G s k (qR G).toNat).length → (spR G s k (qR G).toNat).length - i < n → dX G t W → (∀ a, a ≠ t + 4 → a ≠ t + 15 → W a = V a) → mk G s p k (spR G s k (qR G).toNat) D E i → Tr (b_Moves_layPiece_L28 S0 m p k (spt G p k) n W D E (12 * k + i)) Q := by
  have hmm := hm
  have htt := ht
  unfold isMv at hmm
  unfold isGm at htt
  have hR := hG.2.2.1
  have hP2 := hG.2.1
  have hFr := hG.1
  have hle := spR_le G s k (qR G).toNat
  have sp := spt_r hG p k hp.1
  intro n
  induction n with
  | zero => intro i W D E h1 h2; omega
  | succ n ih =>
    intro i W D E hi hn xW fW hmk
    have gW : gI G t W := gI_H xW fW hg
    have hspH : spH G s m V k (spR G s k (qR G).toNat) := by
      have : k = 0 ∨ k = 1 := by omega
      rcases this with e | e <;> subst e
      · exact hP.2.1
      · exact hP.2.2.1
    have c9 : W (m + 9) = V (m + 9) := fW _ (by omega) (by omega)
    have c6 : W (m + 6) = V (m + 6) := fW _ (by omega) (by omega)
    have c7 : W (m + 7) = V (m + 7) := fW _ (by omega) (by omega)
    have c8 : W (m + 8) = V (m + 8) := fW _ (by omega) (by omega)
    have cm : W m 2 = t := by rw [fW m (by omega) (by omega)]; exact hP.1
    rw [b_Moves_layPiece_L28, FM_11 hm, AM9 hm, gd_in (by omega) (by omega), c9, hspH.1, w32_id (x := k * 12) (by omega) (by omega), w32_id (x := k * 12 + ((spR G s k (qR G).toNat).length : Int)) (by omega) (by omega)]
    refine Tr_if (fun c => ?_) (fun c => ?_)
    · have : i = (spR G s k (qR G).toNat).length := by omega
      subst this
      exact hK W D E xW fW hmk
    have hil : i < (spR G s k (qR G).toNat).length := by omega
    have hrow := hspH.2 i hil
    have hmem := spR_mem hs (qR G).toNat (by omega) (getD_mem hil)
    have hdrop := drop_cons hil
    have ihh := fun W D E => ih (i + 1) W D E (by omega) (by omega)
    rw [show (12 * k + ((i + 1 : Nat) : Int)) = 12 * k + (i : Int) + 1 by omega] at ihh
    rw [FM_9 hm, AM7 hm, gd_in (by omega) (by omega), c7, hrow.2.1, cm, gd_t (OG ht), gW.1.1]
    generalize hr : (spR G s k (qR G).toNat).getD i 0 = r at *
    have hge := goal_e hG hs (x := spt G p k) hmem.1 hmem.2.1 hmem.2.2.1
    have hgr := goalQ_r hG s r (spt G p k)
    have shr := sN_r hs hmem.1 hmem.2.1
    obtain ⟨m1, m2, m3⟩ := hmk
    -- behind the goal
    have hJ : Tr (b_Moves_layPiece_J80 S0 (b_Moves_layPiece_L28 S0 m p k (spt G p k) n) W m p k (spt G p k) D E (12 * k + i) (goalQ G s r (spt G p k))) Q := by
      generalize hγ : goalQ G s r (spt G p k) = γ at *
      unfold b_Moves_layPiece_J80 b_Moves_layPiece_J103
      have w1 : w32 (12 * k + (i : Int) + 1) = 12 * k + (i : Int) + 1 := w32_id (by omega) (by omega)
      have same : (∀ g : Nat, g < 10 → D.testBit g = false → ¬ (γ = (g : Int) ∧ hold G r p k g = 1)) → ∀ U : ASt, dX G t U → (∀ a, a ≠ t + 4 → a ≠ t + 15 → U a = V a) → Tr (b_Moves_layPiece_L28 S0 m p k (spt G p k) n U D E (w32 (12 * k + (i : Int) + 1))) Q := by
        intro hno U xU fU
        rw [w1]
        refine ihh U D E xU fU ⟨m1, m2, fun g hg10 => ⟨(m3 g hg10).1, ?_⟩⟩
        rw [(m3 g hg10).2]
        cases hb : D.testBit g with
        | true => rfl
        | false =>
          rw [if_neg (by decide), if_neg (by decide), hdrop, lawL, hγ, if_neg (hno g hg10 hb)]
      refine Tr_if (fun c1 => ?_) (fun c1 => ?_)
      · refine Tr_t rfl (same (fun g _ _ z => by omega) W xW fW)
      have hγ0 : 0 ≤ γ ∧ γ ≤ 9 := by omega
      have hγn : ((γ.toNat : Nat) : Int) = γ := cast_t hγ0.1
      have hsr : and32 (shr32 D γ) 1 = (if D.testBit γ.toNat = true then 1 else 0 : Int) := by
        have h1 : shr32 D γ = ((D >>> γ.toNat : Nat) : Int) := by rw [← shr_n (by omega) (by omega), hγn]
        rw [h1, and32_1, show ((D >>> γ.toNat : Nat) : Int) % 2 = (((D >>> γ.toNat) % 2 : Nat) : Int) by omega, bit_e]
        cases D.testBit γ.toNat <;> rfl
      rw [hsr]
      cases hb : D.testBit γ.toNat with
      | true =>
        refine Tr_f (by decide) (Tr_t rfl (same (fun g _ hg2 z => ?_) W xW fW))
        have : γ.toNat = g := by omega
        rw [this, hg2] at hb; cases hb
      | false =>
        refine Tr_t rfl (Tr_f (by decide) ?_)
        rw [FM_8 hm, AM6 hm, gd_in (by omega) (by omega), c6, hrow.1, cm, gd_t (OG ht)]
        refine Tr_bnd (G_holds hG ht gW.1 gW.2.1 gW.2.2.1 gW.2.2.2 hmem.1 hmem.2.1 hp hk hγ0) ?_
        rintro x U ⟨hx, xU, fU'⟩
        have fU : ∀ a, a ≠ t + 4 → a ≠ t + 15 → U a = V a := fun a a1 a2 => by rw [fU' a a1 a2, fW a a1 a2]
        have hz := hold_r hG r p k γ
        refine Tr_if (fun c2 => ?_) (fun c2 => ?_)
        · refine same (fun g _ _ z => ?_) U xU fU
          rw [← z.1] at z; omega
        have hone : hold G r p k γ = 1 := by omega
        have u8 : U (m + 8) = V (m + 8) := fU _ (by omega) (by omega)
        have hs1 : shl32 1 γ = ((2 ^ γ.toNat : Nat) : Int) := by rw [← shl1 (by omega), hγn]
        have h10 : 2 ^ γ.toNat ≤ 2 ^ 9 := Nat.pow_le_pow_right (by decide) (by omega)
        rw [FM_10 hm, AM8 hm, gd_in (by omega) (by omega), u8, hrow.2.2, hs1, or_n (by omega) (by omega), w1]
        have hEf : E.testBit γ.toNat = false := by
          cases he : E.testBit γ.toNat with
          | false => rfl
          | true => rw [(m3 γ.toNat (by omega)).1 he] at hb; cases hb
        have hnew : ∀ (z : Nat), (z = 0 ∧ kNow G s r ≠ 0) ∨ (z = 2 ^ γ.toNat ∧ kNow G s r = 0) → mk G s p k (spR G s k (qR G).toNat) (D ||| 2 ^ γ.toNat) (E ||| z) (i + 1) := by
          intro z hzz
          have hzlt : z < 2 ^ 10 := by rcases hzz with ⟨a, -⟩ | ⟨a, -⟩ <;> omega
          refine ⟨Nat.or_lt_two_pow (n := 10) m1 (by omega), Nat.or_lt_two_pow (n := 10) m2 hzlt, fun g hg10 => ?_⟩
          have hzb : g ≠ γ.toNat → z.testBit g = false := fun hne => by
            rcases hzz with ⟨a, -⟩ | ⟨a, -⟩
            · rw [a]; exact Nat.zero_testBit g
            · rw [a, Nat.testBit_two_pow, decide_eq_false (by omega)]
          rw [Nat.testBit_or, Nat.testBit_or, Nat.testBit_two_pow]
          by_cases hgg : g = γ.toNat
          · subst hgg
            rw [hb, hEf, decide_eq_true rfl, Bool.false_or, Bool.false_or, if_pos rfl]
            refine ⟨fun _ => rfl, ?_⟩
            rw [(m3 γ.toNat hg10).2, hb, if_neg (by decide), hdrop, lawL, hγ, hγn, if_pos ⟨rfl, hone⟩]
            rcases hzz with ⟨a, b⟩ | ⟨a, b⟩
            · rw [a, if_neg b, Nat.zero_testBit, if_neg (by decide)]
            · rw [a, if_pos b, Nat.testBit_two_pow, decide_eq_true rfl, if_pos rfl]
          · rw [decide_eq_false (by omega), hzb hgg, Bool.or_false, Bool.or_false]
            refine ⟨(m3 g hg10).1, ?_⟩
            rw [(m3 g hg10).2]
            cases hbg : D.testBit g with
            | true => rfl
            | false =>
              rw [if_neg (by decide), if_neg (by decide), hdrop, lawL, hγ, if_neg (by omega)]
        refine Tr_if (fun c3 => ?_) (fun c3 => ?_)
        · have hk0 : kNow G s r ≠ 0 := fun z => by rw [if_pos z] at c3; omega
          have e0 : or32 (E : Int) 0 = ((E ||| 0 : Nat) : Int) := or_n (m := 0) (by omega) (by omega)
          rw [e0]
          exact ihh U _ _ xU fU (hnew 0 (Or.inl ⟨rfl, hk0⟩))
        · have hk0 : kNow G s r = 0 := Classical.byContradiction fun z => by rw [if_neg z] at c3; exact c3 rfl
          rw [or_n (by omega) (by omega)]
          exact ihh U _ _ xU fU (hnew _ (Or.inr ⟨rfl, hk0⟩))
    refine Tr_if (fun c1 => ?_) (fun c1 => ?_)
    · rw [hge, if_pos c1] at hJ
      exact hJ
    · rw [hge, if_neg c1] at hJ
      have : -3 ≤ shf G s r ∧ shf G s r ≤ 3 := by
        unfold shf
        by_cases z : qW G r = 1
        · rw [if_pos z]; omega
        · rw [if_neg z]; omega
      rw [w32_id (x := spt G p k + shf G s r) (by omega) (by omega)]
      refine Tr_gd (OG ht) (Tr_bq (G_fieldOrNone ht gW.1 _) ?_)
      exact hJ
-- ---- no more moves than rules
theorem lawL_w {G : GM} {s : SL} {p k g : Int} : ∀ l, lawL G s p k g l = 1 → ∃ r, r ∈ l ∧ goalQ G s r (spt G p k) = g := by
  intro l
  induction l with
  | nil => intro h; rw [lawL] at h; omega
  | cons r l ih =>
    intro h
    rw [lawL] at h
    by_cases c : goalQ G s r (spt G p k) = g ∧ hold G r p k g = 1
    · exact ⟨r, List.mem_cons_self, c.1⟩
    · rw [if_neg c] at h
      obtain ⟨r', h1, h2⟩ := ih h
      exact ⟨r', List.mem_cons_of_mem _ h1, h2⟩
theorem cdsT_lt {G : GM} {s : SL} {p : Int} : ∀ n : Nat, ∀ c, c ∈ cdsT G s p n → 0 ≤ c ∧ c < n := by
  intro n
  induction n with
  | zero => intro c h; cases h
  | succ n ih =>
    intro c h
    rw [cdsT_s, List.mem_append] at h
    rcases h with h | h
    · have := ih c h; omega
    · by_cases z : okc G s p n = true
      · rw [if_pos z, List.mem_singleton] at h; omega
      · rw [if_neg z] at h; cases h
theorem cdsT_inj {G : GM} {s : SL} {p : Int} : ∀ n : Nat, ∀ i j : Nat, i < j → j < (cdsT G s p n).length → (cdsT G s p n).getD i 0 < (cdsT G s p n).getD j 0 := by
  intro n
  induction n with
  | zero => intro i j _ h; exact absurd h (Nat.not_lt_zero j)
  | succ n ih =>
    intro i j hij hj
    rw [cdsT_s] at hj ⊢
    by_cases z : okc G s p n = true
    · rw [if_pos z] at hj ⊢
      rw [List.length_append, List.length_cons, List.length_nil] at hj
      rw [getD_snoc, getD_snoc, if_pos (by omega)]
      by_cases hl : j < (cdsT G s p n).length
      · rw [if_pos hl]; exact ih i j hij hl
      · rw [if_neg hl, if_pos (by omega)]
        have := cdsT_lt n _ (getD_mem (show i < (cdsT G s p n).length by omega))
        omega
    · rw [if_neg z, List.append_nil] at hj ⊢
      exact ih i j hij hj
theorem cds_qR {G : GM} {s : SL} (hG : GOK G) (hs : SOK G s) (p : Int) : ((cds G s p).length : Int) ≤ qR G := by
  have hR := hG.2.2.1
  have hw : ∀ i : Nat, i < (cds G s p).length → ∃ r, 0 ≤ r ∧ r < qR G ∧ qI G r = (cds G s p).getD i 0 / 10 ∧ goalQ G s r (spt G p ((cds G s p).getD i 0 / 10)) = (cds G s p).getD i 0 % 10 := by
    intro i hi
    have hc := cds_mem (getD_mem hi)
    generalize (cds G s p).getD i 0 = c at *
    have hl := hc.2.2.2.2.2.2
    unfold law at hl
    by_cases z : spt G p (c / 10) = qF G ∨ (qO G (c / 10) ≠ 2 ∧ qO G (c / 10) ≠ p % 2)
    · rw [if_pos z] at hl; omega
    · rw [if_neg z, lawS_L] at hl
      obtain ⟨r, r1, r2⟩ := lawL_w _ hl
      have := spR_mem hs (qR G).toNat (by omega) r1
      exact ⟨r, this.1, this.2.1, this.2.2.2, r2⟩
  refine pigeonI (m := qR G) (n := (cds G s p).length) (f := fun i => Classical.epsilon fun r => 0 ≤ r ∧ r < qR G ∧ qI G r = (cds G s p).getD i.toNat 0 / 10 ∧ goalQ G s r (spt G p ((cds G s p).getD i.toNat 0 / 10)) = (cds G s p).getD i.toNat 0 % 10) (by omega) (by omega) (fun i a b => ?_) (fun i j a b c d e => ?_)
  · have := Classical.epsilon_spec (hw i.toNat (by omega))
    exact ⟨this.1, this.2.1⟩
  · have q1 := Classical.epsilon_spec (hw i.toNat (by omega))
    have q2 := Classical.epsilon_spec (hw j.toNat (by omega))
    have e' : Classical.epsilon (fun r => 0 ≤ r ∧ r < qR G ∧ qI G r = (cds G s p).getD i.toNat 0 / 10 ∧ goalQ G s r (spt G p ((cds G s p).getD i.toNat 0 / 10)) = (cds G s p).getD i.toNat 0 % 10) = Classical.epsilon (fun r => 0 ≤ r ∧ r < qR G ∧ qI G r = (cds G s p).getD j.toNat 0 / 10 ∧ goalQ G s r (spt G p ((cds G s p).getD j.toNat 0 / 10)) = (cds G s p).getD j.toNat 0 % 10) := e
    rw [e'] at q1
    generalize Classical.epsilon (fun r => 0 ≤ r ∧ r < qR G ∧ qI G r = (cds G s p).getD j.toNat 0 / 10 ∧ goalQ G s r (spt G p ((cds G s p).getD j.toNat 0 / 10)) = (cds G s p).getD j.toNat 0 % 10) = r at q1 q2
    have h10 : (cds G s p).getD i.toNat 0 / 10 = (cds G s p).getD j.toNat 0 / 10 := by rw [← q1.2.2.1, ← q2.2.2.1]
    have hmod : (cds G s p).getD i.toNat 0 % 10 = (cds G s p).getD j.toNat 0 % 10 := by rw [← q1.2.2.2, ← q2.2.2.2, h10]
    have hinj := cdsT_inj (G := G) (s := s) (p := p) 20
    rw [cdsT_20] at hinj
    by_cases hlt : i.toNat < j.toNat
    · have := hinj i.toNat j.toNat hlt (by omega); omega
    · by_cases hgt : j.toNat < i.toNat
      · have := hinj j.toNat i.toNat hgt (by omega); omega
      · omega
theorem cdsT_mono {G : GM} {s : SL} {p : Int} (n : Nat) : ∀ d : Nat, (cdsT G s p n).length ≤ (cdsT G s p (n + d)).length := by
  intro d
  induction d with
  | zero => exact Nat.le_refl _
  | succ d ih =>
    rw [show n + (d + 1) = n + d + 1 by omega, cdsT_s, List.length_append]; omega
theorem cdsT_qR {G : GM} {s : SL} (hG : GOK G) (hs : SOK G s) (p : Int) {n : Nat} (hn : n ≤ 20) : ((cdsT G s p n).length : Int) ≤ 12 := by
  have := cds_qR hG hs p
  have := cdsT_mono (G := G) (s := s) (p := p) n (20 - n)
  rw [show n + (20 - n) = 20 by omega, cdsT_20] at this
  have := hG.2.2.1
  omega
/-- the codes l of p's moves are laid -/
def cdH (m : Int) (V : ASt) (p : Int) (l : List Int) : Prop := V (m + 3) p = l.length ∧ ∀ i : Nat, i < l.length → V (m + 4) (12 * p + i) = l.getD i 0
/-- U is V but for the codes of p -/
def frC (m p : Int) (V U : ASt) : Prop := (∀ a, a ≠ m + 3 → a ≠ m + 4 → U a = V a) ∧ (∀ q, q ≠ p → U (m + 3) q = V (m + 3) q) ∧ (∀ x, (x < 12 * p ∨ 12 * p + 12 ≤ x) → U (m + 4) x = V (m + 4) x)
theorem frC_rfl (m p : Int) (V : ASt) : frC m p V V := ⟨fun _ _ _ => rfl, fun _ _ => rfl, fun _ _ => rfl⟩
theorem frC_tr {m p : Int} {V U W : ASt} (h : frC m p V U) (h2 : frC m p U W) : frC m p V W := ⟨fun a a1 a2 => by rw [h2.1 a a1 a2, h.1 a a1 a2], fun q hq => by rw [h2.2.1 q hq, h.2.1 q hq], fun x hx => by rw [h2.2.2 x hx, h.2.2 x hx]⟩
theorem shr_0 {E : Nat} (hE : E < 1024) {g : Int} (h0 : 0 ≤ g) (h9 : g ≤ 9) : shr32 E g = ((E >>> g.toNat : Nat) : Int) := by
  have := shr_n (n := E) (s := g.toNat) (by omega) (by omega)
  rw [cast_t h0] at this
  exact this
theorem shr_none {E i j : Nat} (h : E >>> i = 0) (hj : i ≤ j) : E.testBit j = false := by
  have := congrArg (fun x => Nat.testBit x (j - i)) h
  simp only [Nat.testBit_shiftRight, Nat.zero_testBit] at this
  rw [show i + (j - i) = j by omega] at this
  exact this
theorem lp_L172 {G : GM} {s : SL} {m p k : Int} {E : Nat} (hG : GOK G) (hs : SOK G s) (hm : isMv m) (hp : 0 ≤ p ∧ p < qPos G) (hk : 0 ≤ k ∧ k < 2) (hE : E < 1024) (hok : ∀ g : Nat, g < 10 → (okc G s p (10 * k + g) = true ↔ E.testBit g = true)) :
    ∀ (n : Nat) (g : Int) (V : ASt), 0 ≤ g → g ≤ 10 → 10 - g < n → cdH m V p (cdsT G s p (10 * k + g).toNat) → Tr (b_Moves_layPiece_L172 S0 m p k E n V g) (fun _ U => cdH m U p (cdsT G s p (10 * k + 10).toNat) ∧ frC m p V U) := by
  have hmm := hm
  unfold isMv at hmm
  have hq := qPos_le hG
  have hend : ∀ (g : Int), 0 ≤ g → (∀ j : Nat, g ≤ j → j < 10 → E.testBit j = false) → ∀ d : Nat, g + d ≤ 10 → cdsT G s p (10 * k + (g + d)).toNat = cdsT G s p (10 * k + g).toNat := by
    intro g g0 hz d
    induction d with
    | zero => intro _; rw [show g + ((0 : Nat) : Int) = g by omega]
    | succ d ih =>
      intro hd
      rw [show (10 * k + (g + ((d + 1 : Nat) : Int))).toNat = (10 * k + (g + (d : Int))).toNat + 1 by omega, cdsT_s, ih (by omega), if_neg, List.append_nil]
      have := hok (g + d).toNat (by omega)
      rw [hz (g + d).toNat (by omega) (by omega), show 10 * k + (((g + d).toNat : Nat) : Int) = (((10 * k + (g + d)).toNat : Nat) : Int) by omega] at this
      exact fun z => absurd (this.mp z) (by decide)
  intro n
  induction n with
  | zero => intro g V h1 h2 h3; omega
  | succ n ih =>
    intro g V g0 g1 hn hc
    rw [b_Moves_layPiece_L172]
    refine Tr_if (fun c => ?_) (fun c => ?_)
    · have : g = 10 := by omega
      subst this
      exact Tr_ret ⟨hc, frC_rfl m p V⟩
    rw [shr_0 hE g0 (by omega), and32_1, w32_id (x := g + 1) (by omega) (by omega)]
    have hbit : ((E >>> g.toNat : Nat) : Int) % 2 = (if E.testBit g.toNat = true then 1 else 0 : Int) := by
      rw [show ((E >>> g.toNat : Nat) : Int) % 2 = (((E >>> g.toNat) % 2 : Nat) : Int) by omega, bit_e]
      cases E.testBit g.toNat <;> rfl
    have hokg := hok g.toNat (by omega)
    rw [show 10 * k + ((g.toNat : Nat) : Int) = (((10 * k + g).toNat : Nat) : Int) by omega] at hokg
    have hs1 : (10 * k + (g + 1)).toNat = (10 * k + g).toNat + 1 := by omega
    refine Tr_if (fun c1 => ?_) (fun c1 => ?_)
    · have hz : E >>> g.toNat = 0 := by omega
      refine Tr_ret ⟨?_, frC_rfl m p V⟩
      have := hend g g0 (fun j j1 j2 => shr_none hz (by omega)) (10 - g).toNat (by omega)
      rw [show g + (((10 - g).toNat : Nat) : Int) = 10 by omega] at this
      rw [this]; exact hc
    rw [hbit]
    cases hb : E.testBit g.toNat with
    | false =>
      refine Tr_t rfl (ih (g + 1) V (by omega) (by omega) (by omega) ?_)
      rw [hs1, cdsT_s, if_neg (fun z => by have := hokg.mp z; rw [hb] at this; cases this), List.append_nil]
      exact hc
    | true =>
      refine Tr_f (by decide) ?_
      have hlist : cdsT G s p (10 * k + (g + 1)).toNat = cdsT G s p (10 * k + g).toNat ++ [10 * k + g] := by
        rw [hs1, cdsT_s, if_pos (hokg.mpr hb), show (((10 * k + g).toNat : Nat) : Int) = 10 * k + g by omega]
      have hlen := cdsT_qR hG hs p (n := (10 * k + (g + 1)).toNat) (by omega)
      have ihh := ih (g + 1)
      rw [hlist] at hlen ihh
      rw [List.length_append, List.length_cons, List.length_nil] at hlen
      generalize cdsT G s p (10 * k + g).toNat = l at *
      rw [FM_5 hm, AM3 hm, gd_in (by omega) (by omega), hc.1, if_neg (by omega), w32_id (x := p * 12) (by omega) (by omega), w32_id (x := p * 12 + (l.length : Int)) (by omega) (by omega), show p * 12 + (l.length : Int) = 12 * p + l.length by omega, FM_6 hm, AM4 hm, gd_in (by omega) (by omega), w32_id (x := k * 10) (by omega) (by omega), w32_id (x := k * 10 + g) (by omega) (by omega), show k * 10 + g = 10 * k + g by omega]
      refine Tr_set (fun V1 e1 n1 => ?_)
      rw [n1 (m + 3) (by omega), hc.1, w32_id (x := (l.length : Int) + 1) (by omega) (by omega)]
      refine Tr_set (fun V2 e2 n2 => ?_)
      have a3 : V2 (m + 3) = upI (V (m + 3)) p ((l.length : Int) + 1) := by rw [e2, n1 (m + 3) (by omega)]
      have a4 : V2 (m + 4) = upI (V (m + 4)) (12 * p + l.length) (10 * k + g) := by rw [n2 (m + 4) (by omega), e1]
      have f2 : frC m p V V2 := ⟨fun a a1 a2 => by rw [n2 a a1, n1 a a2], fun q hq' => by rw [a3, upI_n _ _ hq'], fun x hx => by rw [a4, upI_n _ _ (by omega)]⟩
      refine Tr_mono (ihh V2 (by omega) (by omega) (by omega) ⟨?_, fun i hi => ?_⟩) ?_
      · rw [a3, upI_s, List.length_append]; simp
      · rw [List.length_append, List.length_cons, List.length_nil] at hi
        rw [getD_snoc, a4]
        by_cases hil : i < l.length
        · rw [if_pos hil, upI_n _ _ (by omega)]; exact hc.2 i hil
        · have : i = l.length := by omega
          subst this
          rw [if_neg hil, if_pos rfl, upI_s]
      · rintro r U ⟨u1, u2⟩
        exact ⟨u1, frC_tr f2 u2⟩
theorem okc_no {G : GM} {s : SL} {p k : Int} (hk : 0 ≤ k) (hno : ¬ (k < qP G ∧ (qO G k = 2 ∨ qO G k = p % 2) ∧ spt G p k < qF G)) (hsp : spt G p k ≤ qF G) {g : Int} (hg : 0 ≤ g ∧ g < 10) : okc G s p (10 * k + g) ≠ true := by
  unfold okc
  rw [show (10 * k + g) / 10 = k by omega, show (10 * k + g) % 10 = g by omega]
  intro h
  rw [Bool.and_eq_true, Bool.and_eq_true, decide_eq_true_eq, decide_eq_true_eq, decide_eq_true_eq] at h
  have hl := h.2
  unfold law at hl
  by_cases z : spt G p k = qF G ∨ (qO G k ≠ 2 ∧ qO G k ≠ p % 2)
  · rw [if_pos z] at hl; omega
  · exact hno ⟨h.1.1, by omega, by omega⟩
theorem M_layPiece {G : GM} {s : SL} {m t p k : Int} {V : ASt} (hG : GOK G) (hs : SOK G s) (hm : isMv m) (ht : isGm t) (hg : gI G t V) (hP : dP G s m t V) (hF : qF G ≠ 0) (hp : 0 ≤ p ∧ p < qPos G) (hk : 0 ≤ k ∧ k < 2) (hc : cdH m V p (cdsT G s p (10 * k).toNat)) :
    Tr (f_Moves_layPiece S0 V m p k) (fun _ U => cdH m U p (cdsT G s p (10 * k + 10).toNat) ∧ gI G t U ∧ ∃ W, (∀ a, a ≠ t + 4 → a ≠ t + 15 → W a = V a) ∧ frC m p W U) := by
  have hmm := hm
  have htt := ht
  unfold isMv at hmm
  unfold isGm at htt
  have sp := spt_r hG p k hp.1
  unfold f_Moves_layPiece
  rw [gd_t (OM hm), hP.1, gd_t (OG ht)]
  refine Tr_bq (G_spotToLeave hG ht hg.1 hg.2.1 hF hp hk) ?_
  by_cases c : k < qP G ∧ (qO G k = 2 ∨ qO G k = p % 2) ∧ spt G p k < qF G
  · rw [if_pos c]
    refine Tr_f (by omega) ?_
    rw [w32_id (x := k * 12) (by omega) (by omega), show k * 12 = 12 * k + ((0 : Nat) : Int) by omega]
    refine lp_L28 hG hs hm ht hg hP hF hp ⟨hk.1, c.1⟩ (fun W D E xW fW hmk => ?_) FU 0 V 0 0 (Nat.zero_le _) (by rw [FU_v]; have := spR_le G s k (qR G).toNat; have := hG.2.2.1; omega) hg.2.2.1 (fun _ _ _ => rfl) ⟨by decide, by decide, fun g _ => ⟨fun z => absurd z (by rw [Nat.zero_testBit]; decide), by rw [Nat.zero_testBit, if_neg (by decide), List.drop_zero]⟩⟩
    obtain ⟨m1, m2, m3⟩ := hmk
    have hcW : cdH m W p (cdsT G s p (10 * k + 0).toNat) := by
      unfold cdH
      rw [fW (m + 3) (by omega) (by omega), fW (m + 4) (by omega) (by omega), Int.add_zero]; exact hc
    have hlaw : ∀ g, law G s p k g = lawL G s p k g (spR G s k (qR G).toNat) := fun g => by
      unfold law
      rw [if_neg (by omega), lawS_L]
    refine Tr_mono (lp_L172 hG hs hm hp hk m2 (fun g hg10 => ?_) FU 0 W (by omega) (by omega) (by rw [FU_v]; omega) hcW) ?_
    · have h3 := (m3 g hg10).2
      rw [List.drop_length, lawL] at h3
      unfold okc
      rw [show (10 * k + (g : Int)) / 10 = k by omega, show (10 * k + (g : Int)) % 10 = g by omega, decide_eq_true c.1, Bool.true_and, Bool.and_eq_true, decide_eq_true_eq, decide_eq_true_eq, hlaw, h3]
      cases hD : D.testBit g with
      | false =>
        cases hE : E.testBit g with
        | false => constructor
                   · intro z; rw [if_neg (by decide)] at z; omega
                   · intro z; cases z
        | true => have := (m3 g hg10).1 hE; rw [hD] at this; cases this
      | true =>
        rw [if_pos rfl]
        cases hE : E.testBit g with
        | false => constructor
                   · intro z; rw [if_neg (by decide)] at z; omega
                   · intro z; cases z
        | true =>
          refine ⟨fun _ => rfl, fun _ => ⟨?_, rfl⟩⟩
          rw [hD, hE, if_pos rfl, if_pos rfl] at h3
          obtain ⟨r, r1, r2⟩ := lawL_w _ h3
          have := goalQ_r hG s r (spt G p k)
          omega
    · rintro r U ⟨u1, u2⟩
      refine ⟨u1, ?_, W, fW, u2⟩
      refine gI_M hm ht (fun a ha => u2.1 a (by omega) (by omega)) (gI_H xW fW hg)
  · rw [if_neg c]
    refine Tr_t rfl (Tr_ret ⟨?_, hg, V, fun _ _ _ => rfl, frC_rfl m p V⟩)
    have : ∀ d : Nat, d ≤ 10 → cdsT G s p (10 * k + d).toNat = cdsT G s p (10 * k).toNat := by
      intro d
      induction d with
      | zero => intro _; rw [show 10 * k + ((0 : Nat) : Int) = 10 * k by omega]
      | succ d ih =>
        intro hd
        rw [show (10 * k + ((d + 1 : Nat) : Int)).toNat = (10 * k + (d : Int)).toNat + 1 by omega, cdsT_s, ih (by omega), if_neg, List.append_nil]
        rw [show (((10 * k + (d : Int)).toNat : Nat) : Int) = 10 * k + d by omega]
        exact okc_no hk.1 c sp.2 (by omega)
    have h10 := this 10 (by decide)
    rw [show 10 * k + ((10 : Nat) : Int) = 10 * k + 10 by omega] at h10
    rw [h10]; exact hc
