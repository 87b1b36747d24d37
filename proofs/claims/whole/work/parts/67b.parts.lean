/-! the same, of the class -/
theorem dfI_01 (G : GM) (s s' : SL) (p : Int) : dfI G s s' p = 0 ∨ dfI G s s' p = 1 := by
  unfold dfI
  by_cases z : cds G s p = cds G s' p ∧ nx G s p = nx G s' p
  · rw [if_pos z]; exact Or.inl rfl
  · rw [if_neg z]; exact Or.inr rfl
theorem dfI_nx {G : GM} {s s' : SL} {p : Int} (h : dfI G s s' p = 0) : nx G s p = nx G s' p := by
  unfold dfI at h
  by_cases z : cds G s p = cds G s' p ∧ nx G s p = nx G s' p
  · exact z.2
  · rw [if_neg z] at h; exact absurd h (by decide)
theorem Sp_isLike {G : GM} {s s' : SL} {p : Int} {V : ASt} (hG : GOK G) (hs : SOK G s) (hs' : SOK G s') (hp : 0 ≤ p ∧ p < 200) (h1 : mvH G s 50 V p) (h2 : mvH G s' 74 V p) : f_Spring_isLike S0 V p 50 74 = some (1 - dfI G s s' p, V) := by
  have m1 : isMv 50 := Or.inl rfl
  have m2 : isMv 74 := Or.inr rfl
  have c1 := nx_len G s p
  have c2 := nx_len G s' p
  have l20 := nx_20 G s p
  unfold f_Spring_isLike
  rw [gd_t O_50, M_countOf m1 hp h1, bnd_e, gd_t O_74, M_countOf m2 hp h2, bnd_e]
  have h0 : dfI G s s' p = 1 → ∀ (n : Nat) (i : Int), b_Spring_isLike_L22 S0 p 50 74 (n + 1) V 0 i = some (1 - dfI G s s' p, V) := by
    intro hd n i
    rw [b_Spring_isLike_L22, gd_t O_50, M_countOf m1 hp h1, bnd_e, hd]
    by_cases z : ((nx G s p).length : Int) ≤ i
    · rw [if_pos z]; rfl
    · rw [if_neg z, if_pos rfl]; rfl
  by_cases c : ((nx G s p).length : Int) = (nx G s' p).length
  · rw [if_pos c]
    have hl : ∀ (n : Nat) (i : Nat), i ≤ (nx G s p).length → (nx G s p).length - i + 1 < n → (∀ j : Nat, j < i → (cds G s p).getD j 0 = (cds G s' p).getD j 0 ∧ (nx G s p).getD j 0 = (nx G s' p).getD j 0) → b_Spring_isLike_L22 S0 p 50 74 n V 1 i = some (1 - dfI G s s' p, V) := by
      intro n
      induction n with
      | zero => intro i h1 h2; omega
      | succ n ih =>
        intro i i1 hn hj
        obtain ⟨n', en⟩ : ∃ n', n = n' + 1 := ⟨n - 1, by omega⟩
        rw [b_Spring_isLike_L22, gd_t O_50, M_countOf m1 hp h1, bnd_e]
        by_cases d : ((nx G s p).length : Int) ≤ i
        · have e1 : cds G s p = cds G s' p := l_ext (by omega) (fun j hj' => (hj j (by omega)).1)
          have e2 : nx G s p = nx G s' p := l_ext (by omega) (fun j hj' => (hj j (by omega)).2)
          have e0 : dfI G s s' p = 0 := by unfold dfI; rw [if_pos ⟨e1, e2⟩]
          rw [if_pos d, e0]; rfl
        · rw [if_neg d, if_neg (by decide), M_codeOf hG hs m1 hp h1, bnd_e, gd_t O_74, M_codeOf hG hs' m2 hp h2, bnd_e, if_pos (show (0 : Int) ≤ i ∧ (i : Int) < (nx G s p).length by omega), if_pos (show (0 : Int) ≤ i ∧ (i : Int) < (nx G s' p).length by omega), show ((i : Int)).toNat = i by omega, w32_id (x := (i : Int) + 1) (by omega) (by omega)]
          by_cases e : (cds G s p).getD i 0 = (cds G s' p).getD i 0
          · rw [if_pos e, M_nextOf hG hs m1 hp h1 (show i < (nx G s p).length by omega), bnd_e, M_nextOf hG hs' m2 hp h2 (show i < (nx G s' p).length by omega), bnd_e]
            by_cases f : (nx G s p).getD i 0 = (nx G s' p).getD i 0
            · rw [if_pos f]
              have := ih (i + 1) (by omega) (by omega) (fun j hj' => ?_)
              · rw [show ((i + 1 : Nat) : Int) = (i : Int) + 1 by omega] at this
                exact this
              · by_cases z : j = i
                · rw [z]; exact ⟨e, f⟩
                · exact hj j (by omega)
            · rw [if_neg f, en]
              exact h0 (by unfold dfI; rw [if_neg (fun z => f (by rw [z.2]))]) _ _
          · rw [if_neg e, en]
            exact h0 (by unfold dfI; rw [if_neg (fun z => e (by rw [z.1]))]) _ _
    exact hl FU 0 (by omega) (by rw [FU_v]; omega) (fun j hj => by omega)
  · rw [if_neg c]
    exact h0 (by unfold dfI; rw [if_neg (fun z => c (by rw [z.2]))]) 99999 0
theorem ca_54 {G : GM} {s : SL} {k p : Int} {V : ASt} {K : ASt → Int → Int → Option (Int × ASt)} {Q : Int → ASt → Prop} (hG : GOK G) (hs : SOK G s) (hk : 0 ≤ k ∧ k ≤ 300) (hp : 0 ≤ p ∧ p < 200) (h1 : mvH G s 50 V p) :
    ∀ (n : Nat) (i : Nat) (W : ASt) (a : (Int → Int) × Int), i ≤ (nx G s p).length → (nx G s p).length - i < n → (∀ c, c ≠ 46 → W c = V c) → agr W 46 a.1 →
      (∀ W' : ASt, (∀ c, c ≠ 46 → W' c = V c) → agr W' 46 (hitL k ((nx G s p).drop i) a).1 → Tr (K W' (hitL k ((nx G s p).drop i) a).2 (p + 1)) Q) →
      Tr (b_Spring_compareAt_L54 S0 K 43 k 50 74 p n W a.2 i) Q := by
  have hq := qPos_le hG
  have l20 := nx_20 G s p
  have m1 : isMv 50 := Or.inl rfl
  intro n
  induction n with
  | zero => intro i W a h1 h2; omega
  | succ n ih =>
    intro i W a i1 hn fW hA hK
    have hW : mvH G s 50 W p := by
      unfold mvH cdH at *
      rw [fW (50 + 3) (by decide), fW (50 + 4) (by decide), fW (50 + 5) (by decide)]; exact h1
    rw [b_Spring_compareAt_L54, gd_t O_50, M_countOf m1 hp hW, bnd_e]
    refine Tr_if (fun c => ?_) (fun c => ?_)
    · rw [hitL_e k (show (nx G s p).length ≤ i by omega)] at hK
      rw [w32_id (x := p + 1) (by omega) (by omega)]
      exact hK W fW hA
    · have hi : i < (nx G s p).length := by omega
      have hmem : (nx G s p).getD i 0 ∈ nx G s p := by rw [getD_e hi]; exact List.getElem_mem _
      have hr := nx_r hG hp.1 hmem
      rw [hitL_d k hi] at hK
      rw [M_nextOf hG hs m1 hp hW hi, bnd_e, w32_id (x := (i : Int) + 1) (by omega) (by omega), show (i : Int) + 1 = ((i + 1 : Nat) : Int) by omega]
      refine Tr_if (fun e => ?_) (fun e => ?_)
      · have eh : hit k ((nx G s p).getD i 0) a = a := by unfold hit; rw [if_neg (by omega)]
        rw [eh] at hK
        exact ih (i + 1) W a (by omega) (by omega) fW hA hK
      · refine Tr_f (by omega) ?_
        rw [F_43_4, A_46, gd_in (by omega) (by omega), hA _ (by omega) (by omega)]
        refine Tr_if (fun f => ?_) (fun f => ?_)
        · have eh : hit k ((nx G s p).getD i 0) a = (upI a.1 ((nx G s p).getD i 0) (k + 1), 1) := by unfold hit; rw [if_pos ⟨by omega, f⟩]
          rw [w32_id (x := k + 1) (by omega) (by omega)]
          refine Tr_set (fun V1 e1 n1 => ?_)
          rw [eh] at hK
          exact ih (i + 1) V1 (upI a.1 ((nx G s p).getD i 0) (k + 1), 1) (by omega) (by omega) (fun c hc => by rw [n1 c hc, fW c hc]) (agr_s hA e1) hK
        · have eh : hit k ((nx G s p).getD i 0) a = a := by unfold hit; rw [if_neg (fun z => f z.2)]
          rw [eh] at hK
          exact ih (i + 1) W a (by omega) (by omega) fW hA hK
def LQ (G : GM) (V : ASt) (D : Int → Int) : Prop := ∀ q, 0 ≤ q → q < 200 → D q ≠ -1 → q < qPos G ∧ lP 74 V q
theorem LQ_hit {G : GM} {V : ASt} {k e : Int} {a : (Int → Int) × Int} (h : LQ G V a.1) (he : 0 ≤ e → e < qPos G ∧ lP 74 V e) : LQ G V (hit k e a).1 := by
  unfold hit
  by_cases c : 0 ≤ e ∧ a.1 e = -1
  · rw [if_pos c]
    intro q q0 q1 hq
    by_cases z : q = e
    · rw [z]; exact he c.1
    · exact h q q0 q1 (by rw [← upI_n a.1 (k + 1) z]; exact hq)
  · rw [if_neg c]; exact h
theorem LQ_hitL {G : GM} {V : ASt} {k : Int} : ∀ (l : List Int) (a : (Int → Int) × Int), LQ G V a.1 → (∀ e, e ∈ l → 0 ≤ e → e < qPos G ∧ lP 74 V e) → LQ G V (hitL k l a).1 := by
  intro l
  induction l with
  | nil => intro a h _; exact h
  | cons e l ih =>
    intro a h hl
    rw [hitL]
    exact ih _ (LQ_hit h (hl e (List.mem_cons_self ..))) (fun e' he' => hl e' (List.mem_cons_of_mem _ he'))
theorem fl_hitL {k : Int} (hk : 0 ≤ k) {l : List Int} {a : (Int → Int) × Int} (hl : ∀ e, e ∈ l → e < 200) (h : a.2 = 0 ∨ a.2 = 1) : (hitL k l a).2 = 0 ∨ (hitL k l a).2 = 1 := by
  rcases (ptx_hitL hk l a hl).2.2 with z | z
  · rw [z]; exact h
  · exact Or.inr z.1
theorem ca_6 {G : GM} {s s' : SL} {k : Int} {V : ASt} (hG : GOK G) (hs : SOK G s) (hs' : SOK G s') (hk : 0 ≤ k ∧ k ≤ 300) (h1 : MA G s 50 V) (h2 : LDC G s' 74 V (V 74 1)) :
    ∀ (n : Nat) (p : Int) (W : ASt) (a : (Int → Int) × Int), 0 ≤ p → p ≤ 200 → 200 - p < n → (a.2 = 0 ∨ a.2 = 1) → (∀ c, c ≠ 46 → W c = V c) → agr W 46 a.1 → LQ G V a.1 →
      Tr (b_Spring_compareAt_L6 S0 43 k 50 74 n W a.2 p) (fun r U => (scF a.1 (dfI G s s') k (qPos G - p).toNat p = -1 ∧ r = (exF (nx G s) k (qPos G - p).toNat p a).2 ∧ (∀ c, c ≠ 46 → U c = V c) ∧ agr U 46 (exF (nx G s) k (qPos G - p).toNat p a).1 ∧ LQ G V (exF (nx G s) k (qPos G - p).toNat p a).1) ∨
        (scF a.1 (dfI G s s') k (qPos G - p).toNat p ≠ -1 ∧ r = 0 ∧ (∀ c, c ≠ 46 → c ≠ 43 → U c = V c) ∧ U 43 = upI (upI (V 43) 2 k) 3 (scF a.1 (dfI G s s') k (qPos G - p).toNat p))) := by
  have hq := qPos_le hG
  intro n
  induction n with
  | zero => intro p W a h1 h2 h3; omega
  | succ n ih =>
    intro p W a p0 p1 hn ha fW hA hL
    rw [b_Spring_compareAt_L6]
    refine Tr_if (fun c => ?_) (fun c => ?_)
    · rw [show (qPos G - p).toNat = 0 by omega, scF, exF, zb_t ha]
      exact Tr_ret (Or.inl ⟨rfl, rfl, fW, hA, hL⟩)
    rw [F_43_4, A_46, gd_in (by omega) (by omega), hA p p0 (by omega), w32_id (x := p + 1) (by omega) (by omega)]
    refine Tr_if (fun d => ?_) (fun d => ?_)
    · have hp := hL p p0 (by omega) (by omega)
      have hat := LDC_at hG h2 hp.2
      have hW1 : mvH G s 50 W p := by
        have := h1 p p0 hp.1
        unfold mvH cdH at *
        rw [fW (50 + 3) (by decide), fW (50 + 4) (by decide), fW (50 + 5) (by decide)]; exact this
      have hW2 : mvH G s' 74 W p := by
        have := hat.2.1
        unfold mvH cdH at *
        rw [fW (74 + 3) (by decide), fW (74 + 4) (by decide), fW (74 + 5) (by decide)]; exact this
      refine Tr_bq (Sp_isLike hG hs hs' ⟨p0, by omega⟩ hW1 hW2) ?_
      rw [show (qPos G - p).toNat = (qPos G - (p + 1)).toNat + 1 by omega, scF, exF]
      refine Tr_if (fun e => ?_) (fun e => ?_)
      · have hd1 : dfI G s s' p = 1 := by omega
        rw [if_pos ⟨d, hd1⟩]
        refine Tr_set (fun V1 e1 n1 => ?_)
        refine Tr_set (fun V2 e2 n2 => Tr_ret (Or.inr ⟨by omega, rfl, fun c c1 c2 => by rw [n2 c c2, n1 c c2, fW c c1], by rw [e2, e1, fW 43 (by decide)]⟩))
      · have hd0 : dfI G s s' p = 0 := by have := dfI_01 G s s' p; omega
        rw [if_neg (fun z => by have := z.2; omega), if_pos d]
        have hN : ∀ e, e ∈ nx G s p → e < 200 := fun e he => by rcases nx_r hG p0 he with z | z | z <;> omega
        have hpx := ptx_hitL hk.1 (nx G s p) a hN
        have hsc := scF_c (df := dfI G s s') (ptx_k hk.1 hpx) (qPos G - (p + 1)).toNat (p + 1)
        rw [← hsc]
        have := ca_54 (K := b_Spring_compareAt_L6 S0 43 k 50 74 n) (Q := fun r U => (scF (hitL k (nx G s p) a).1 (dfI G s s') k (qPos G - (p + 1)).toNat (p + 1) = -1 ∧ r = (exF (nx G s) k (qPos G - (p + 1)).toNat (p + 1) (hitL k (nx G s p) a)).2 ∧ (∀ c, c ≠ 46 → U c = V c) ∧ agr U 46 (exF (nx G s) k (qPos G - (p + 1)).toNat (p + 1) (hitL k (nx G s p) a)).1 ∧ LQ G V (exF (nx G s) k (qPos G - (p + 1)).toNat (p + 1) (hitL k (nx G s p) a)).1) ∨
          (scF (hitL k (nx G s p) a).1 (dfI G s s') k (qPos G - (p + 1)).toNat (p + 1) ≠ -1 ∧ r = 0 ∧ (∀ c, c ≠ 46 → c ≠ 43 → U c = V c) ∧ U 43 = upI (upI (V 43) 2 k) 3 (scF (hitL k (nx G s p) a).1 (dfI G s s') k (qPos G - (p + 1)).toNat (p + 1)))) hG hs hk ⟨p0, by omega⟩ (h1 p p0 hp.1) FU 0 W a (by omega) (by have := nx_20 G s p; rw [FU_v]; omega) fW hA (fun W' fW' hA' => ?_)
        · exact this
        · rw [List.drop_zero] at hA' ⊢
          refine ih (p + 1) W' (hitL k (nx G s p) a) (by omega) (by omega) (by omega) (fl_hitL hk.1 hN ha) fW' hA' (LQ_hitL _ a hL (fun e he e0 => ?_))
          rw [dfI_nx hd0] at he
          rcases hat.2.2.1 e he with z | z | z
          · omega
          · omega
          · exact ⟨z.2.1, z.2.2⟩
    · by_cases hpq : p < qPos G
      · rw [show (qPos G - p).toNat = (qPos G - (p + 1)).toNat + 1 by omega, scF, exF, if_neg (fun z => d z.1), if_neg d]
        exact ih (p + 1) W a (by omega) (by omega) (by omega) ha fW hA hL
      · have := ih (p + 1) W a (by omega) (by omega) (by omega) ha fW hA hL
        rw [show (qPos G - (p + 1)).toNat = 0 by omega] at this
        rw [show (qPos G - p).toNat = 0 by omega]
        have e1 : scF a.1 (dfI G s s') k 0 p = scF a.1 (dfI G s s') k 0 (p + 1) := rfl
        have e2 : exF (nx G s) k 0 p a = exF (nx G s) k 0 (p + 1) a := rfl
        rw [e1, e2]; exact this
theorem co_42 {G : GM} {s s' : SL} {V : ASt} (hG : GOK G) (hs : SOK G s) (hs' : SOK G s') (h1 : MA G s 50 V) (h2 : LDC G s' 74 V (V 74 1)) (v2 : V 43 2 = -1) (v3 : V 43 3 = -1) :
    ∀ (n m : Nat) (k : Int) (W : ASt) (D : Int → Int), lvI k D → 201 - k < n → 200 - k < m → (∀ c, c ≠ 46 → W c = V c) → agr W 46 D → LQ G V D → Tr (b_Spring_compare_L42 S0 43 50 74 n W 1 k) (fun _ U => U 43 2 = (ptF (nx G s) (dfI G s s') (qPos G).toNat m k D).1 ∧ U 43 3 = (ptF (nx G s) (dfI G s s') (qPos G).toNat m k D).2 ∧ U 43 0 = V 43 0 ∧ ∀ c, c ≠ 46 → c ≠ 43 → U c = V c) := by
  have hq := qPos_le hG
  intro n
  induction n with
  | zero => intro m k W D h hn; have := lvI_le h; omega
  | succ n ih =>
    intro m k W D hI hn hm fW hA hL
    have hle := lvI_le hI
    have hk0 := hI.1
    rw [b_Spring_compare_L42]
    refine Tr_f (by omega) (Tr_f (by decide) ?_)
    refine Tr_t (by rw [fW 43 (by decide)]; exact v3) ?_
    obtain ⟨m', em⟩ : ∃ m', m = m' + 1 := ⟨m - 1, by omega⟩
    subst em
    rw [ptF]
    have hca := ca_6 hG hs hs' ⟨hk0, by omega⟩ h1 h2 FU 0 W (D, 0) (by omega) (by omega) (by rw [FU_v]; omega) (Or.inl rfl) fW hA hL
    rw [show qPos G - 0 = qPos G by omega] at hca
    unfold f_Spring_compareAt
    rw [gd_t O_43]
    refine Tr_bnd hca ?_
    rintro r U (⟨z1, z2, z3, z4, z5⟩ | ⟨z1, z2, z3, z4⟩)
    · have z1' : scF D (dfI G s s') k (qPos G).toNat 0 = -1 := z1
      rw [if_pos z1', w32_id (x := k + 1) (by omega) (by omega)]
      have hpx := ptx_ex (N := nx G s) hk0 (fun p p0 e he => by rcases nx_r hG p0 he with z | z | z <;> omega) (qPos G).toNat 0 (D, 0) (by omega)
      by_cases z : (exF (nx G s) k (qPos G).toNat 0 (D, 0)).2 = 0
      · rw [if_pos z, z2, z, show n = (n - 1) + 1 by omega, b_Spring_compare_L42]
        have hQ : U 43 2 = (-1 : Int) ∧ U 43 3 = -1 ∧ U 43 0 = V 43 0 ∧ ∀ c, c ≠ 46 → c ≠ 43 → U c = V c := by
          rw [z3 43 (by decide)]
          exact ⟨v2, v3, rfl, fun c c1 _ => z3 c c1⟩
        exact Tr_if (fun _ => Tr_ret hQ) (fun _ => Tr_t rfl (Tr_ret hQ))
      · have h1' : (exF (nx G s) k (qPos G).toNat 0 (D, 0)).2 = 1 := by
          rcases hpx.2.2 with y | y
          · exact absurd y z
          · exact y.1
        rw [if_neg z, z2, h1']
        exact ih m' (k + 1) U _ (lvI_s hI hpx z) (by omega) (by omega) z3 z4 z5
    · have z1' : ¬ scF D (dfI G s s') k (qPos G).toNat 0 = -1 := z1
      rw [if_neg z1', w32_id (x := k + 1) (by omega) (by omega), z2, show n = (n - 1) + 1 by omega, b_Spring_compare_L42]
      have hQ : U 43 2 = k ∧ U 43 3 = scF D (dfI G s s') k (qPos G).toNat 0 ∧ U 43 0 = V 43 0 ∧ ∀ c, c ≠ 46 → c ≠ 43 → U c = V c := by
        refine ⟨?_, ?_, ?_, z3⟩
        · rw [z4, upI_n _ _ (by decide), upI_s]
        · rw [z4, upI_s]
        · rw [z4, upI_n _ _ (by decide), upI_n _ _ (by decide)]
      exact Tr_if (fun _ => Tr_ret hQ) (fun _ => Tr_t rfl (Tr_ret hQ))
theorem dIt_sp {x : ST} {t : Int} {V U : ASt} (h : dIt x t V) (hl : xN x 1 ≤ 40) (hf : ∀ a, a ≠ 46 → a ≠ 43 → U a = V a) (h0 : U 43 0 = V 43 0) : dIt x t U := by
  have h' := h
  obtain ⟨-, h1, -, -, -, -, -, -, -, -, h10, h11, h12, h13, h14⟩ := h
  exact dIt_g h' rfl rfl (fun _ _ => rfl) rfl hl (fun a ha => hf a (by omega) (by omega)) (dA_k (hf 0 (by decide) (by decide)) h1) (dSp_k h0 (hf 44 (by decide) (by decide)) (hf 45 (by decide) (by decide)) h10) (dMa_k (hf 109 (by decide) (by decide)) h11) (dTp_k (by rw [hf 1 (by decide) (by decide)]) (hf 2 (by decide) (by decide)) h12) (dIm_k (by rw [hf 113 (by decide) (by decide)]) (hf 114 (by decide) (by decide)) h13) (dMi_k (hf 35 (by decide) (by decide)) (hf 108 (by decide) (by decide)) (hf 37 (by decide) (by decide)) (hf 6 (by decide) (by decide)) (hf 22 (by decide) (by decide)) (hf 111 (by decide) (by decide)) (hf 112 (by decide) (by decide)) (hf 115 (by decide) (by decide)) h14)
theorem D_parts {x : ST} {t : Int} {V : ASt} (hG : GOK (xG x)) (hs : SOK (xG x) (xS x)) (h : dIt x t V) (hl : xN x 1 ≤ 40) (h2 : xN x 2 = 0 ∨ xN x 2 = 1) (hsp : xN x 2 = 1 → SOK (xG x) (xH x 40)) (w : Int) : Tr (f_SG_parts S0 V 0 w) (fun r U => r = sParts x w ∧ dIt x t U ∧ frX V U) := by
  have hq := qPos_le hG
  have hbr := beg_r hG (d := xN x 0)
  have h' := h
  obtain ⟨h0, k1, k2, k3, k4, k5, k6, k7, k8, k9, k10, -⟩ := h
  have htm := h0
  unfold isGm at htm
  unfold f_SG_parts sParts
  rw [gd_t O_0, k1.1, gd_t (OG h0), k2.1.1]
  refine Tr_if (fun c => ?_) (fun c => ?_)
  · rw [if_pos (Or.inl c)]; exact Tr_ret ⟨rfl, h', fun _ _ => rfl⟩
  rw [F_0_5, gd_t O_43, k10.1]
  refine Tr_if (fun d => ?_) (fun d => ?_)
  · rw [if_pos (Or.inr (Or.inl d))]; exact Tr_ret ⟨rfl, h', fun _ _ => rfl⟩
  refine Tr_if (fun e => ?_) (fun e => ?_)
  · rw [if_pos (Or.inr (Or.inr (by omega)))]; exact Tr_ret ⟨rfl, h', fun _ _ => rfl⟩
  by_cases f : w ≤ 1
  case neg => rw [if_pos (Or.inr (Or.inr (by omega)))]; exact Tr_f f (Tr_ret ⟨rfl, h', fun _ _ => rfl⟩)
  refine Tr_t f ?_
  rw [if_neg (fun z => z.elim c (fun y => y.elim d (fun u => u (by omega))))]
  have h21 : xN x 2 = 1 := by omega
  have hs' := hsp h21
  have hm : isMv 74 := Or.inr rfl
  rw [F_0_9, gd_t O_73, F_73_1, gd_t O_74, F_43_1]
  refine Tr_bnd (M_prepare hG hs' hm h0 (show isSl 44 by unfold isSl; omega) k2.1 (k10.2 h21)) ?_
  rintro _ V1 ⟨p1, p2, p3, p4, f1⟩
  have g1 : gI (xG x) t V1 := gI_k (fun o a b => f1 _ (by omega)) k2
  refine Tr_bnd (M_layOut hG hs' hm h0 c (Or.inl rfl) g1 p1) ?_
  rintro _ V2 ⟨q1, q2, q3, q4, f2, q5, q6⟩
  have hD2 : dIt x t V2 := dIt_wo h' (fun a a1 a2 a3 a4 => by rw [f2 a (by omega) a3 a4, f1 a (by omega)]) q1 (dWW_k (by rw [f2 96 (by omega) (by omega) (by omega), f1 96 (by omega)]) (by rw [f2 (96 + 1) (by omega) (by omega) (by omega), f1 (96 + 1) (by omega)]) (by rw [f2 (96 + 2) (by omega) (by omega) (by omega), f1 (96 + 2) (by omega)]) (by rw [f2 (96 + 5) (by omega) (by omega) (by omega), f1 (96 + 5) (by omega)]) k7) (dWW_k (by rw [f2 102 (by omega) (by omega) (by omega), f1 102 (by omega)]) (by rw [f2 (102 + 1) (by omega) (by omega) (by omega), f1 (102 + 1) (by omega)]) (by rw [f2 (102 + 2) (by omega) (by omega) (by omega), f1 (102 + 2) (by omega)]) (by rw [f2 (102 + 5) (by omega) (by omega) (by omega), f1 (102 + 5) (by omega)]) k8)
  refine Tr_bnd (D_movesNow hG hs c hD2) ?_
  rintro r3 V3 ⟨r1, r2, r3', r4, f3⟩
  have e3 : ∀ o, 0 ≤ o → o ≤ 11 → V3 (74 + o) = V2 (74 + o) := fun o a b => f3 _ (by omega) (by omega) (by omega)
  have hL3 : LDC (xG x) (xH x 40) 74 V3 (V3 74 1) := by
    have e74 : V3 74 = V2 74 := e3 0 (by decide) (by decide)
    unfold LDC QC mvH cdH at *
    rw [e74, e3 1 (by decide) (by decide), e3 2 (by decide) (by decide), e3 3 (by decide) (by decide), e3 4 (by decide) (by decide), e3 5 (by decide) (by decide)]
    exact q3
  rw [r1]
  refine Tr_bq (D_beginningNow hG r2) ?_
  have hlp : lP 74 V3 (beg (xG x) (xN x 0)) := by
    refine ⟨hbr.1, by omega, ?_⟩
    rw [e3 2 (by decide) (by decide), ← beg_m]
    have : xN x 0 % 2 = 0 ∨ xN x 0 % 2 = 1 := by omega
    rcases this with z | z
    · rw [z]; exact (q6 rfl).1
    · rw [z]; exact (q6 rfl).2
  have hcmp : Tr (f_Spring_compare S0 V3 43 50 74 (beg (xG x) (xN x 0))) (fun _ U => U 43 2 = (ptS x).1 ∧ U 43 3 = (ptS x).2 ∧ U 43 0 = V3 43 0 ∧ ∀ c, c ≠ 46 → c ≠ 43 → U c = V3 c) := by
    unfold f_Spring_compare ptS
    rw [gd_t O_43]
    refine Tr_set (fun V4 e4 n4 => ?_)
    refine Tr_set (fun V5 e5 n5 => ?_)
    rw [F_43_4]
    refine Tr_bq (fill_ok O_46 L_46 (by decide) (by decide)) ?_
    refine Tr_f (by omega) (Tr_f (by omega) ?_)
    rw [A_46, gd_in (by omega) (by omega)]
    refine Tr_set (fun V7 e7 n7 => ?_)
    have fV : ∀ a, a ≠ 46 → a ≠ 43 → V7 a = V3 a := fun a a1 a2 => by rw [n7 a a1, arow_n _ _ a1, n5 a a2, n4 a a2]
    have e43 : V7 43 = upI (upI (V3 43) 2 (-1)) 3 (-1) := by rw [n7 43 (by decide), arow_n _ _ (show (43 : Int) ≠ 46 by decide), e5, e4]
    have hMA : MA (xG x) (xS x) 50 V7 := MA_k (fun o a b => fV _ (by omega) (by omega)) r4
    have hLD : LDC (xG x) (xH x 40) 74 V7 (V7 74 1) := by
      have e74 : V7 74 = V3 74 := fV 74 (by decide) (by decide)
      unfold LDC QC mvH cdH at *
      rw [e74, fV (74 + 1) (by decide) (by decide), fV (74 + 2) (by decide) (by decide), fV (74 + 3) (by decide) (by decide), fV (74 + 4) (by decide) (by decide), fV (74 + 5) (by decide) (by decide)]
      exact hL3
    refine Tr_mono (co_42 hG hs hs' hMA hLD (by rw [e43, upI_n _ _ (by decide), upI_s]) (by rw [e43, upI_s]) FU 201 0 V7 _ (lvI_0 (st := beg (xG x) (xN x 0)) ⟨hbr.1, by omega⟩) (by rw [FU_v]; omega) (by omega) (fun _ _ => rfl) (fun j j0 j1 => ?_) (fun q q0 q1 hq => ?_)) ?_
    · rw [e7, arow_s]
      by_cases z : j = beg (xG x) (xN x 0)
      · rw [z, upI_s, upI_s]
      · rw [upI_n _ _ z, upI_n _ _ z, if_pos ⟨j0, j1⟩]
    · by_cases z : q = beg (xG x) (xN x 0)
      · rw [z]
        refine ⟨hbr.2, hlp.1, hlp.2.1, ?_⟩
        rw [fV (74 + 2) (by decide) (by decide)]; exact hlp.2.2
      · rw [upI_n _ _ z] at hq; exact absurd rfl hq
    · rintro r U ⟨u1, u2, u3, u4⟩
      refine ⟨u1, u2, ?_, fun c c1 c2 => by rw [u4 c c1 c2, fV c c1 c2]⟩
      rw [u3, e43, upI_n _ _ (by decide), upI_n _ _ (by decide)]
  refine Tr_bnd hcmp ?_
  rintro r4 U ⟨u1, u2, u3, u4⟩
  have hU : dIt x t U := dIt_sp r2 hl u4 u3
  have fX : frX V U := fun a ha => by rw [u4 a (by omega) (by omega), f3 a (by omega) (by omega) (by omega), f2 a (by omega) (by omega) (by omega), f1 a (by omega)]
  refine Tr_if (fun g => ?_) (fun g => ?_)
  · rw [if_pos g]; exact Tr_ret ⟨u1, hU, fX⟩
  · rw [if_neg g]; exact Tr_ret ⟨u2, hU, fX⟩
