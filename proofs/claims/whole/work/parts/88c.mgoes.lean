/-! the reference's cells hold the machine: how it goes on -/
def PG (T : Int → Int) (n b : Int) (ns : List (List Int)) (V : ASt) (st : Option (MS ⊕ RS)) (x : Int) (U : ASt) : Prop := fmV b V U ∧ ((∃ s : MS, st = some (Sum.inl s) ∧ M0 T n b ns s.1 s.2.2.1 s.2.2.2.1 s.2.2.2.2 U ∧ x = 1 ∧ U 142 40 = s.2.1) ∨ (∃ (q i : Int) (c : CDs), st = some (Sum.inr (q, i, c)) ∧ q ≠ 0 ∧ U 142 8 = q ∧ U 142 9 = i) ∨ (∃ (i : Int) (c : CDs), st = some (Sum.inr (0, i, c)) ∧ x = 0 ∧ U 142 8 = 0 ∧ rKt T n i U ∧ cdR b c U))
theorem PG_V {T : Int → Int} {n b : Int} {ns : List (List Int)} {V V1 : ASt} {st : Option (MS ⊕ RS)} {x : Int} {U : ASt} (f : fmV b V V1) (h : PG T n b ns V1 st x U) : PG T n b ns V st x U := ⟨fmV_tr f h.1, h.2⟩
theorem jnO_len {bs l : Int} : ∀ (os : List Int) (cs : CDs), (jnO bs l os cs).1.length ≤ os.length ∧ (jnO bs l os cs).2.length + (jnO bs l os cs).1.length = cs.length + os.length := by
  intro os
  induction os with
  | nil => intro cs; exact ⟨Nat.le_refl _, rfl⟩
  | cons op os ih =>
    intro cs
    rw [jnO]
    by_cases c : bs < ((op :: os).length : Int) ∧ l ≤ rkO op
    · rw [if_pos c]
      have := ih (cs ++ [(op, 0)])
      simp only [List.length_append, List.length_cons, List.length_nil] at this ⊢
      omega
    · rw [if_neg c]; exact ⟨Nat.le_refl _, rfl⟩
theorem M1_s {T : Int → Int} {n b : Int} {ns : List (List Int)} {fs : List FR} {os : List Int} {cs : CDs} {V U : ASt} (h : M1 T n b ns fs os cs V) (e : ∀ k, k ≠ 40 → U 142 k = V 142 k) (m : ∀ a, a ≠ 142 → U a = V a) : M1 T n b ns fs os cs U := by
  obtain ⟨h1, h2, h3, h4, h5, h6, h7, h8, h9⟩ := h
  refine ⟨⟨by rw [e 2 (by decide)]; exact h1.1, h1.2.1, fun i i0 i1 => by rw [m 143 (by decide)]; exact h1.2.2 i i0 i1⟩, by rw [e 36 (by decide)]; exact h2, by rw [e 37 (by decide)]; exact h3, by rw [e 39 (by decide)]; exact h4, by rw [m 165 (by decide)]; exact h5, fmR_k fs (fun a i a1 a2 _ _ => by rw [m a (by omega)]) h6, ?_, by rw [e 30 (by decide)]; exact h8, ?_⟩
  · unfold cdR at *
    rw [e 29 (by decide), m 158 (by decide), m 159 (by decide)]
    exact h7
  · unfold nmR at *
    rw [m 145 (by decide), m 146 (by decide)]
    exact h9
theorem M0_s {T : Int → Int} {n b k : Int} {ns : List (List Int)} {fs : List FR} {os : List Int} {cs : CDs} {V U : ASt} (h : M0 T n b ns k fs os cs V) (e : ∀ k, k ≠ 40 → U 142 k = V 142 k) (m : ∀ a, a ≠ 142 → U a = V a) : M0 T n b ns k fs os cs U := by
  refine ⟨?_, fun z => M1_s (h.2 (by rw [← e 8 (by decide)]; exact z)) e m⟩
  have := h.1
  unfold rKt rTk at *
  rw [e 8 (by decide), e 9 (by decide), e 4 (by decide), e 5 (by decide), e 3 (by decide), e 6 (by decide), e 7 (by decide)]
  exact this
theorem fmV_40 {b : Int} {V U : ASt} (e : ∀ k, k ≠ 40 → U 142 k = V 142 k) (m : ∀ a, a ≠ 142 → U a = V a) : fmV b V U := fmV_n (fun a a1 _ => m a a1) (fun k _ _ _ _ _ k6 => e k k6)
/-- to the next token, and an operand is awaited -/
theorem M_nx {T : Int → Int} {n N b k : Int} {ns : List (List Int)} {fs : List FR} {os : List Int} {cs : CDs} {V : ASt} (hL : lstK T n N) (hk : 0 ≤ k ∧ k < N) (hr : rKt T n k V) (h : M1 T n b ns fs os cs V) (h8 : V 142 8 = 0) : Tr (bnd (f_M_ahead S0 V 142) (fun _ V6 => wV (aset V6 142 40 0) (fun V8 => some (1, V8)))) (fun x U => fmV b V U ∧ x = 1 ∧ M0 T n b ns (k + 1) fs os cs U ∧ U 142 40 = 0) := by
  refine Tr_bnd (M_next h.1 hL hk hr h8) ?_
  rintro _ W ⟨w1, w2⟩
  refine Tr_set (fun U eU nU => Tr_ret ⟨fmV_tr (fmV_A w1) (fmV_40 (fun k hk => by rw [eU, upI_n _ _ hk]) nU), rfl, M0_s ⟨w2, fun _ => M1_A h w1⟩ (fun k hk => by rw [eU, upI_n _ _ hk]) nU, by rw [eU, upI_s]⟩)
theorem M_G74 {T : Int → Int} {n N b k kd ph bg pr bs : Int} {ns : List (List Int)} {r : List FR} {os : List Int} {cs : CDs} {V : ASt} (hb : b = 0 ∨ b = 1) (hL : lstK T n N) (hk : 0 ≤ k ∧ k < N) (hr : rKt T n k V) (h : M1 T n b ns ((kd, ph, bg, pr, bs) :: r) os cs V) (h8 : V 142 8 = 0) (hg : gdS k ((kd, ph, bg, pr, bs) :: r) os cs) (hph : ph < 2) (har : (tkK T n).1 k = 43 ∨ (tkK T n).1 k = 45 ∨ (tkK T n).1 k = 42 ∨ (tkK T n).1 k = 47 ∨ (tkK T n).1 k = 37) :
    Tr (b_M_goesOn_J74 S0 V 142) (PG T n b ns V (stG (tkK T n) k kd ph bg pr bs r os cs)) := by
  have hn := h.1.2.1
  have hNn := hL.2.1
  obtain ⟨hg1, hg2, hg3⟩ := hg
  have hlen : ((((kd, ph, bg, pr, bs) :: r : List FR).length : Nat) : Int) = (r.length : Int) + 1 := by simp only [List.length_cons]; omega
  have e : stG (tkK T n) k kd ph bg pr bs r os cs = some (Sum.inl (k + 1, 0, (kd, ph, bg, pr, bs) :: r, arO ((tkK T n).1 k) :: (jnO bs (if (tkK T n).1 k = 43 ∨ (tkK T n).1 k = 45 then 5 else 6) os cs).1, (jnO bs (if (tkK T n).1 k = 43 ∨ (tkK T n).1 k = 45 then 5 else 6) os cs).2)) := by
    unfold stG; rw [if_pos ⟨hph, har⟩]
  rw [e]
  have j161 : ∀ (op l : Int) (U : ASt), arO ((tkK T n).1 k) = op → M1 T n b ns ((kd, ph, bg, pr, bs) :: r) (jnO bs l os cs).1 (jnO bs l os cs).2 U → fmV b V U → fmT V U → (if (tkK T n).1 k = 43 ∨ (tkK T n).1 k = 45 then (5 : Int) else 6) = l → Tr (b_M_goesOn_J161 S0 U 142 142 op) (PG T n b ns V (some (Sum.inl (k + 1, 0, (kd, ph, bg, pr, bs) :: r, arO ((tkK T n).1 k) :: (jnO bs (if (tkK T n).1 k = 43 ∨ (tkK T n).1 k = 45 then 5 else 6) os cs).1, (jnO bs (if (tkK T n).1 k = 43 ∨ (tkK T n).1 k = 45 then 5 else 6) os cs).2)))) := by
    intro op l U hop mU fU tU hl
    rw [hop, hl]
    have hj := jnO_len (bs := bs) (l := l) os cs
    unfold b_M_goesOn_J161
    rw [gd_t O_142]
    refine Tr_bnd (M_hold (op := op) mU (by omega)) ?_
    rintro _ W ⟨w1, w2, w3⟩
    refine Tr_mono (M_nx hL hk (rKt_k hr (fmT_tr tU w3)) w1 (by rw [w3 8 (by omega), tU 8 (by omega)]; exact h8)) ?_
    rintro x X ⟨x1, x2, x3, x4⟩
    exact ⟨fmV_tr (fmV_tr fU w2) x1, Or.inl ⟨_, rfl, x3, x2, x4⟩⟩
  have j99 : ∀ l : Int, (if (tkK T n).1 k = 43 ∨ (tkK T n).1 k = 45 then (5 : Int) else 6) = l → Tr (b_M_goesOn_J99 S0 V 142 142 l) (PG T n b ns V (some (Sum.inl (k + 1, 0, (kd, ph, bg, pr, bs) :: r, arO ((tkK T n).1 k) :: (jnO bs (if (tkK T n).1 k = 43 ∨ (tkK T n).1 k = 45 then 5 else 6) os cs).1, (jnO bs (if (tkK T n).1 k = 43 ∨ (tkK T n).1 k = 45 then 5 else 6) os cs).2)))) := by
    intro l hl
    unfold b_M_goesOn_J99
    rw [gd_t O_142]
    refine Tr_bnd (M_join (bs := bs) (l := l) hb h (by omega) rfl (by omega) (by omega)) ?_
    rintro _ U ⟨u1, u2, u3⟩
    have rU := rKt_k hr u3
    have u8 : U 142 8 = 0 := by rw [u3 8 (by omega)]; exact h8
    have hS := K_sign rU u8
    refine Tr_bq (hS 43 (by decide)) ?_
    by_cases c1 : (tkK T n).1 k = 43
    · rw [if_pos c1]
      exact Tr_f (by decide) (j161 10 l U (by rw [c1]; rfl) u1 u2 u3 hl)
    rw [if_neg c1]
    refine Tr_t rfl (Tr_bq (hS 45 (by decide)) ?_)
    by_cases c2 : (tkK T n).1 k = 45
    · rw [if_pos c2]
      exact Tr_f (by decide) (j161 11 l U (by rw [c2]; rfl) u1 u2 u3 hl)
    rw [if_neg c2]
    refine Tr_t rfl (Tr_bq (hS 42 (by decide)) ?_)
    by_cases c3 : (tkK T n).1 k = 42
    · rw [if_pos c3]
      exact Tr_f (by decide) (j161 12 l U (by rw [c3]; rfl) u1 u2 u3 hl)
    rw [if_neg c3]
    refine Tr_t rfl (Tr_bq (hS 47 (by decide)) ?_)
    by_cases c4 : (tkK T n).1 k = 47
    · rw [if_pos c4]
      exact Tr_f (by decide) (j161 13 l U (by rw [c4]; rfl) u1 u2 u3 hl)
    rw [if_neg c4]
    have c5 : (tkK T n).1 k = 37 := by omega
    exact Tr_t rfl (j161 14 l U (by rw [c5]; rfl) u1 u2 u3 hl)
  have hS := K_sign hr h8
  unfold b_M_goesOn_J74
  refine Tr_bq (hS 43 (by decide)) ?_
  by_cases c1 : (tkK T n).1 k = 43
  · rw [if_pos c1]
    exact Tr_f (by decide) (j99 5 (if_pos (Or.inl c1)))
  rw [if_neg c1]
  refine Tr_t rfl (Tr_bq (hS 45 (by decide)) ?_)
  by_cases c2 : (tkK T n).1 k = 45
  · rw [if_pos c2]
    exact Tr_f (by decide) (j99 5 (if_pos (Or.inr c2)))
  rw [if_neg c2]
  exact Tr_t rfl (j99 6 (if_neg (by omega)))
/-- phase and begin of the frame are set -/
theorem M1_pb {T : Int → Int} {n b kd ph bg pr bs x : Int} {ns : List (List Int)} {r : List FR} {os : List Int} {cs : CDs} {V U : ASt} (h : M1 T n b ns ((kd, ph, bg, pr, bs) :: r) os cs V) (e : U 161 = upI (V 161) (r.length : Int) x) (m : ∀ a, a ≠ 161 → U a = V a) : M1 T n b ns ((kd, x, bg, pr, bs) :: r) os cs U := by
  obtain ⟨⟨k1, k2, k3, k4, k5, k6, k7⟩, kr⟩ := h.2.2.2.2.2.1
  exact M1_F h (fun a ha => m a (by omega)) rfl ⟨⟨by rw [m 160 (by decide)]; exact k1, by rw [e, upI_s], by rw [m 162 (by decide)]; exact k3, k4, fun z => by rw [m 163 (by decide)]; exact k5 z, by rw [m 164 (by decide)]; exact k6, k7⟩, fmR_k r (fun a i a1 a2 i0 i1 => by
    by_cases z : a = 161
    · subst z; rw [e, upI_n _ _ (by omega)]
    · rw [m a z]) kr⟩
theorem M1_bg {T : Int → Int} {n b kd ph bg pr bs x : Int} {ns : List (List Int)} {r : List FR} {os : List Int} {cs : CDs} {V U : ASt} (h : M1 T n b ns ((kd, ph, bg, pr, bs) :: r) os cs V) (hx : x = 0 ∨ x = 1) (e : U 162 = upI (V 162) (r.length : Int) x) (m : ∀ a, a ≠ 162 → U a = V a) : M1 T n b ns ((kd, ph, x, pr, bs) :: r) os cs U := by
  obtain ⟨⟨k1, k2, k3, k4, k5, k6, k7⟩, kr⟩ := h.2.2.2.2.2.1
  exact M1_F h (fun a ha => m a (by omega)) rfl ⟨⟨by rw [m 160 (by decide)]; exact k1, by rw [m 161 (by decide)]; exact k2, by rw [e, upI_s], hx, fun z => by rw [m 163 (by decide)]; exact k5 z, by rw [m 164 (by decide)]; exact k6, k7⟩, fmR_k r (fun a i a1 a2 i0 i1 => by
    by_cases z : a = 162
    · subst z; rw [e, upI_n _ _ (by omega)]
    · rw [m a z]) kr⟩
theorem M1_kd {T : Int → Int} {n b kd ph bg pr bs x : Int} {ns : List (List Int)} {r : List FR} {os : List Int} {cs : CDs} {V U : ASt} (h : M1 T n b ns ((kd, ph, bg, pr, bs) :: r) os cs V) (hk : kd = 3) (e : U 160 = upI (V 160) (r.length : Int) x) (m : ∀ a, a ≠ 160 → U a = V a) : M1 T n b ns ((x, ph, bg, pr, bs) :: r) os cs U := by
  obtain ⟨⟨k1, k2, k3, k4, k5, k6, k7⟩, kr⟩ := h.2.2.2.2.2.1
  exact M1_F h (fun a ha => m a (by omega)) rfl ⟨⟨by rw [e, upI_s], by rw [m 161 (by decide)]; exact k2, by rw [m 162 (by decide)]; exact k3, k4, fun _ => by rw [m 163 (by decide)]; exact k5 (Or.inl hk), by rw [m 164 (by decide)]; exact k6, k7⟩, fmR_k r (fun a i a1 a2 i0 i1 => by
    by_cases z : a = 160
    · subst z; rw [e, upI_n _ _ (by omega)]
    · rw [m a z]) kr⟩
theorem fmV_f {b a0 : Int} {V U : ASt} (ha : 160 ≤ a0 ∧ a0 ≤ 165) (m : ∀ a, a ≠ a0 → U a = V a) : fmV b V U := fmV_n (fun a a1 a2 => m a (by omega)) (fun k _ _ _ _ _ _ => by rw [m 142 (by omega)])
theorem fmT_f {a0 : Int} {V U : ASt} (ha : 160 ≤ a0) (m : ∀ a, a ≠ a0 → U a = V a) : fmT V U := fun j _ => by rw [m 142 (by omega)]
theorem M_G215 {T : Int → Int} {n N b k kd ph bg pr bs : Int} {ns : List (List Int)} {r : List FR} {os : List Int} {cs : CDs} {V : ASt} (hb : b = 0 ∨ b = 1) (hL : lstK T n N) (hk : 0 ≤ k ∧ k < N) (hr : rKt T n k V) (h : M1 T n b ns ((kd, ph, bg, pr, bs) :: r) os cs V) (h8 : V 142 8 = 0) (hg : gdS k ((kd, ph, bg, pr, bs) :: r) os cs) (hty : (tkK T n).1 k = 60 ∨ (tkK T n).1 k = 62 ∨ (tkK T n).1 k = 61) :
    Tr (b_M_goesOn_J215 S0 V 142 (r.length : Int)) (PG T n b ns V (some (Sum.inl (k + 1, 0, (kd, 1, bg, pr, bs) :: r, cmO ((tkK T n).1 k) :: (jnO bs 5 os cs).1, (jnO bs 5 os cs).2)))) := by
  have hn := h.1.2.1
  have hNn := hL.2.1
  obtain ⟨hg1, hg2, hg3⟩ := hg
  have hlen : ((((kd, ph, bg, pr, bs) :: r : List FR).length : Nat) : Int) = (r.length : Int) + 1 := by simp only [List.length_cons]; omega
  have hj := jnO_len (bs := bs) (l := 5) os cs
  unfold b_M_goesOn_J215
  refine Tr_bnd (M_join (bs := bs) (l := 5) hb h (by omega) rfl (by omega) (by omega)) ?_
  rintro _ U ⟨u1, u2, u3⟩
  have rU := rKt_k hr u3
  have u8 : U 142 8 = 0 := by rw [u3 8 (by omega)]; exact h8
  have hS := K_sign rU u8
  have fin : ∀ op : Int, cmO ((tkK T n).1 k) = op → Tr (b_M_goesOn_J251 S0 U 142 (r.length : Int) 142 op) (PG T n b ns V (some (Sum.inl (k + 1, 0, (kd, 1, bg, pr, bs) :: r, cmO ((tkK T n).1 k) :: (jnO bs 5 os cs).1, (jnO bs 5 os cs).2)))) := by
    intro op hop
    rw [hop]
    unfold b_M_goesOn_J251
    rw [gd_t O_142]
    refine Tr_bnd (M_hold (op := op) u1 (by omega)) ?_
    rintro _ W ⟨w1, w2, w3⟩
    rw [F_142_32, A_161, gd_in (by omega) (by omega)]
    refine Tr_set (fun X eX nX => ?_)
    refine Tr_mono (M_nx hL hk (rKt_k (rKt_k rU w3) (fmT_f (by decide) nX)) (M1_pb w1 eX nX) (by rw [nX 142 (by decide), w3 8 (by omega)]; exact u8)) ?_
    rintro x Y ⟨y1, y2, y3, y4⟩
    exact ⟨fmV_tr (fmV_tr (fmV_tr u2 w2) (fmV_f (by decide) nX)) y1, Or.inl ⟨_, rfl, y3, y2, y4⟩⟩
  refine Tr_bq (hS 60 (by decide)) ?_
  by_cases c1 : (tkK T n).1 k = 60
  · rw [if_pos c1]
    exact Tr_f (by decide) (fin 17 (by rw [c1]; rfl))
  rw [if_neg c1]
  refine Tr_t rfl (Tr_bq (hS 62 (by decide)) ?_)
  by_cases c2 : (tkK T n).1 k = 62
  · rw [if_pos c2]
    exact Tr_f (by decide) (fin 18 (by rw [c2]; rfl))
  rw [if_neg c2]
  have c3 : (tkK T n).1 k = 61 := by omega
  exact Tr_t rfl (fin 19 (by rw [c3]; rfl))
theorem M_G296 {T : Int → Int} {n N b k kd ph bg pr bs : Int} {ns : List (List Int)} {r : List FR} {os : List Int} {cs : CDs} {V : ASt} (hb : b = 0 ∨ b = 1) (hL : lstK T n N) (hk : 0 ≤ k ∧ k < N) (hr : rKt T n k V) (h : M1 T n b ns ((kd, ph, bg, pr, bs) :: r) os cs V) (h8 : V 142 8 = 0) (hg : gdS k ((kd, ph, bg, pr, bs) :: r) os cs) (hty : (tkK T n).1 k = 272 ∨ (tkK T n).1 k = 271) :
    Tr (b_M_goesOn_J296 S0 V 142 (r.length : Int)) (PG T n b ns V (if ph = 0 then some (Sum.inr (1, (tkK T n).2.1 k, cs)) else some (Sum.inl (k + 1, 0, (kd, 0, 1, pr, bs) :: r, (if (tkK T n).1 k = 272 then 20 else 21) :: (jnO bs (if (tkK T n).1 k = 272 then 2 else 1) os cs).1, (jnO bs (if (tkK T n).1 k = 272 then 2 else 1) os cs).2)))) := by
  have hn := h.1.2.1
  have hNn := hL.2.1
  obtain ⟨hg1, hg2, hg3⟩ := hg
  have hlen : ((((kd, ph, bg, pr, bs) :: r : List FR).length : Nat) : Int) = (r.length : Int) + 1 := by simp only [List.length_cons]; omega
  have hph : V 161 (r.length : Int) = ph := h.2.2.2.2.2.1.1.2.1
  unfold b_M_goesOn_J296
  rw [F_142_32, A_161, gd_in (by omega) (by omega), hph]
  refine Tr_if (fun z => ?_) (fun z => ?_)
  · rw [if_pos z]
    refine Tr_bnd (M_blame V 1 (V 142 4)) ?_
    rintro _ U ⟨u1, -, u3, -⟩
    have u3' := u3 (by omega)
    unfold b_M_goesOn_J314
    exact Tr_f (by omega) (Tr_ret ⟨fmV_A u1, Or.inr (Or.inl ⟨1, _, _, rfl, by decide, u3'.1, by rw [u3'.2]; exact (rKt_K hr h8).2.1⟩)⟩)
  · rw [if_neg z]
    have fin : ∀ x4 op l : Int, (x4 = 0 ∧ op = 21 ∨ x4 = 1 ∧ op = 20) → (if (tkK T n).1 k = 272 then (20 : Int) else 21) = op → (if (tkK T n).1 k = 272 then (2 : Int) else 1) = l → Tr (b_M_goesOn_J343 S0 V 142 (r.length : Int) x4 142 l) (PG T n b ns V (some (Sum.inl (k + 1, 0, (kd, 0, 1, pr, bs) :: r, (if (tkK T n).1 k = 272 then 20 else 21) :: (jnO bs (if (tkK T n).1 k = 272 then 2 else 1) os cs).1, (jnO bs (if (tkK T n).1 k = 272 then 2 else 1) os cs).2)))) := by
      intro x4 op l hx hop hl
      rw [hop, hl]
      have hj := jnO_len (bs := bs) (l := l) os cs
      unfold b_M_goesOn_J343
      rw [gd_t O_142]
      refine Tr_bnd (M_join (bs := bs) (l := l) hb h (by omega) rfl (by omega) (by omega)) ?_
      rintro _ U ⟨u1, u2, u3⟩
      have f359 : Tr (b_M_goesOn_J359 S0 U 142 (r.length : Int) 142 op) (PG T n b ns V (some (Sum.inl (k + 1, 0, (kd, 0, 1, pr, bs) :: r, op :: (jnO bs l os cs).1, (jnO bs l os cs).2)))) := by
        unfold b_M_goesOn_J359
        rw [gd_t O_142]
        refine Tr_bnd (M_hold (op := op) u1 (by omega)) ?_
        rintro _ W ⟨w1, w2, w3⟩
        rw [F_142_32, F_142_33, A_161, gd_in (by omega) (by omega)]
        refine Tr_set (fun X eX nX => ?_)
        rw [A_162, gd_in (by omega) (by omega)]
        refine Tr_set (fun Y eY nY => ?_)
        refine Tr_mono (M_nx hL hk (rKt_k (rKt_k (rKt_k (rKt_k hr u3) w3) (fmT_f (by decide) nX)) (fmT_f (by decide) nY)) (M1_bg (M1_pb w1 eX nX) (Or.inr rfl) eY nY) (by rw [nY 142 (by decide), nX 142 (by decide), w3 8 (by omega), u3 8 (by omega)]; exact h8)) ?_
        rintro x Z ⟨z1, z2, z3, z4⟩
        exact ⟨fmV_tr (fmV_tr (fmV_tr (fmV_tr u2 w2) (fmV_f (by decide) nX)) (fmV_f (by decide) nY)) z1, Or.inl ⟨_, rfl, z3, z2, z4⟩⟩
      rcases hx with ⟨q1, q2⟩ | ⟨q1, q2⟩
      · subst q2; exact Tr_t q1 f359
      · subst q2; exact Tr_f (by omega) f359
    unfold b_M_goesOn_J314
    refine Tr_t (by omega) (Tr_bq (K_word hr h8 16 6385252 272 (by decide) (by decide) (by decide)) ?_)
    by_cases c : (tkK T n).1 k = 272
    · have e1 : (if (tkK T n).1 k = 272 then (1 : Int) else 0) = 1 := if_pos c
      rw [e1]
      exact Tr_f (by decide) (fin 1 20 2 (Or.inr ⟨rfl, rfl⟩) (if_pos c) (if_pos c))
    · have e1 : (if (tkK T n).1 k = 272 then (1 : Int) else 0) = 0 := if_neg c
      rw [e1]
      exact Tr_t rfl (fin 0 21 1 (Or.inl ⟨rfl, rfl⟩) (if_neg c) (if_neg c))
