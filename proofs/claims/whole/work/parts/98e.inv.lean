/-! what stays true of the state, call by call -/
theorem IV_mono {B C : Int} {x : ST} (h : IV B x) (hB : B ≤ C) : IV C x := by
  obtain ⟨a1, a2, a3, a4, a5, a6, a7, a8, a9, a10, a11, a12, a13, a14, a15, a16, a17⟩ := h
  exact ⟨a1, a2, a3, ⟨a4.1, by omega, a4.2.2⟩, a5, a6, a7, ⟨a8.1, by omega⟩, a9, a10, a11, a12, a13, a14, a15, fun k k0 k1 => by have := a16 k k0 k1; omega, a17⟩
theorem IV_n {B : Int} {x x' : ST} (h : IV B x) (e1 : x'.1 = x.1) (e2 : x'.2.1 = x.2.1) (eH : x'.2.2.2.1 = x.2.2.2.1) (n1 : xN x' 1 = xN x 1) (n2 : xN x' 2 = xN x 2) (c0 : 0 ≤ xN x' 0 ∧ xN x' 0 ≤ 65535 + B ∧ (qF (xG x) = 0 → xN x' 0 = 0)) (c3 : 0 ≤ xN x' 3 ∧ xN x' 3 < qPos (xG x) ∧ (qF (xG x) = 0 → xN x' 3 = 0)) (c4 : 0 ≤ xN x' 4 ∧ xN x' 4 ≤ B) (c5 : -1 ≤ xN x' 5 ∧ xN x' 5 ≤ 1) (c6 : 0 ≤ xN x' 6 ∧ xN x' 6 ≤ 1800) (c9 : 0 ≤ xN x' 9 ∧ xN x' 9 ≤ 44) (c10 : 0 ≤ xN x' 10 ∧ xN x' 10 ≤ 2) (c11 : 0 ≤ xN x' 11 ∧ xN x' 11 ≤ 2) (c12 : 0 ≤ xN x' 12 ∧ xN x' 12 ≤ 100) (c13 : 0 ≤ xN x' 13 ∧ xN x' 13 ≤ 100) (c20 : ∀ k, 20 ≤ k → k ≤ 25 → 0 ≤ xN x' k ∧ xN x' k ≤ B) (cT : ∀ i, 0 ≤ i → i < xN x' 6 → 0 ≤ xT x' i ∧ xT x' i ≤ 255) : IV B x' := by
  obtain ⟨a1, a2, a3, -, a5, a6, -, -, -, -, -, -, -, -, -, -, a17, a18, -⟩ := h
  have eG : xG x' = xG x := e1
  have eS : xS x' = xS x := e2
  have eh : ∀ i, xH x' i = xH x i := fun i => by unfold xH; rw [eH]
  unfold IV
  rw [eG, eS, n1, n2]
  refine ⟨a1, a2, a3, c0, a5, a6, c3, c4, c5, c6, c9, c10, c11, c12, c13, c20, fun i i0 i1 => ?_, fun e => ?_, cT⟩
  · rw [eh]; exact a17 i i0 i1
  · rw [eh]; exact a18 e
/-- some single numbers are changed -/
theorem IV_k {B : Int} {x x' : ST} (h : IV B x) (e1 : x'.1 = x.1) (e2 : x'.2.1 = x.2.1) (e3 : x'.2.2.2 = x.2.2.2) (n1 : xN x' 1 = xN x 1) (n2 : xN x' 2 = xN x 2) (c0 : xN x' 0 = xN x 0 ∨ (0 ≤ xN x' 0 ∧ xN x' 0 ≤ 65535 + B ∧ (qF (xG x) = 0 → xN x' 0 = 0))) (c3 : xN x' 3 = xN x 3 ∨ (0 ≤ xN x' 3 ∧ xN x' 3 < qPos (xG x) ∧ (qF (xG x) = 0 → xN x' 3 = 0))) (c4 : xN x' 4 = xN x 4 ∨ (0 ≤ xN x' 4 ∧ xN x' 4 ≤ B)) (c5 : xN x' 5 = xN x 5 ∨ (-1 ≤ xN x' 5 ∧ xN x' 5 ≤ 1)) (c6 : xN x' 6 = xN x 6 ∨ (0 ≤ xN x' 6 ∧ xN x' 6 ≤ xN x 6)) (c9 : xN x' 9 = xN x 9) (c10 : xN x' 10 = xN x 10 ∨ (0 ≤ xN x' 10 ∧ xN x' 10 ≤ 2)) (c11 : xN x' 11 = xN x 11 ∨ (0 ≤ xN x' 11 ∧ xN x' 11 ≤ 2)) (c12 : xN x' 12 = xN x 12 ∨ (0 ≤ xN x' 12 ∧ xN x' 12 ≤ 100)) (c13 : xN x' 13 = xN x 13 ∨ (0 ≤ xN x' 13 ∧ xN x' 13 ≤ 100)) (c20 : ∀ k, 20 ≤ k → k ≤ 25 → xN x' k = xN x k ∨ (0 ≤ xN x' k ∧ xN x' k ≤ B)) : IV B x' := by
  have h' := h
  obtain ⟨a1, a2, a3, a4, a5, a6, a7, a8, a9, a10, a11, a12, a13, a14, a15, a16, a17, a18, a19⟩ := h
  refine IV_n h' e1 e2 (by rw [e3]) n1 n2 ?_ ?_ ?_ ?_ ?_ ?_ ?_ ?_ ?_ ?_ (fun k k0 k1 => ?_) (fun i i0 i1 => ?_)
  · rcases c0 with z | z
    · rw [z]; exact a4
    · exact z
  · rcases c3 with z | z
    · rw [z]; exact a7
    · exact z
  · rcases c4 with z | z
    · rw [z]; exact a8
    · exact z
  · rcases c5 with z | z
    · rw [z]; exact a9
    · exact z
  · omega
  · rw [c9]; exact a11
  · rcases c10 with z | z
    · rw [z]; exact a12
    · exact z
  · rcases c11 with z | z
    · rw [z]; exact a13
    · exact z
  · rcases c12 with z | z
    · rw [z]; exact a14
    · exact z
  · rcases c13 with z | z
    · rw [z]; exact a15
    · exact z
  · rcases c20 k k0 k1 with z | z
    · rw [z]; exact a16 k k0 k1
    · exact z
  · have : xT x' i = xT x i := by unfold xT; rw [e3]
    rw [this]; exact a19 i i0 (by omega)
theorem IV_rf {B : Int} {x : ST} (h : IV B x) {k : Int} (hk : 0 ≤ k ∧ k ≤ 5) : IV (B + 1) (xRf x k) := by
  have h1 := IV_mono h (show B ≤ B + 1 by omega)
  have m : ∀ j, j ≠ 20 + k → xN (xRf x k) j = xN x j := fun j hj => uN_n x _ hj
  refine IV_k h1 rfl rfl rfl (m 1 (by omega)) (m 2 (by omega)) (Or.inl (m 0 (by omega))) (Or.inl (m 3 (by omega))) (Or.inl (m 4 (by omega))) (Or.inl (m 5 (by omega))) (Or.inl (m 6 (by omega))) (m 9 (by omega)) (Or.inl (m 10 (by omega))) (Or.inl (m 11 (by omega))) (Or.inl (m 12 (by omega))) (Or.inl (m 13 (by omega))) (fun j j0 j1 => ?_)
  by_cases z : j = 20 + k
  · right
    rw [z]
    have e : xN (xRf x k) (20 + k) = xN x (20 + k) + 1 := uN_s x _ _
    rw [e]
    have := h.2.2.2.2.2.2.2.2.2.2.2.2.2.2.2.1 (20 + k) (by omega) (by omega)
    omega
  · exact Or.inl (m j z)
theorem IV_an {B : Int} {x : ST} (h : IV B x) : IV B (xAn x) := by
  have hG := h.1
  have h0 := h.2.2.2.1
  have h4 := h.2.2.2.2.2.2.2.1
  refine IV_k h rfl rfl rfl (xAn_n (by decide) (by decide) (by decide)) (xAn_n (by decide) (by decide) (by decide)) (Or.inl (xAn_n (by decide) (by decide) (by decide))) (Or.inr ?_) (Or.inr ?_) (Or.inr ?_) (Or.inl (xAn_n (by decide) (by decide) (by decide))) (xAn_n (by decide) (by decide) (by decide)) (Or.inl (xAn_n (by decide) (by decide) (by decide))) (Or.inl (xAn_n (by decide) (by decide) (by decide))) (Or.inl (xAn_n (by decide) (by decide) (by decide))) (Or.inl (xAn_n (by decide) (by decide) (by decide))) (fun j j0 j1 => Or.inl (xAn_n (by omega) (by omega) (by omega)))
  · rw [xAn_3]
    have := beg_r hG (d := xN x 0)
    refine ⟨this.1, this.2, fun z => ?_⟩
    unfold beg
    rw [if_pos (hG.2.2.2.2.1 z).1, h0.2.2 z]; rfl
  · rw [xAn_4]; omega
  · rw [xAn_5]; exact ⟨by decide, by decide⟩
theorem IV_6 {B n : Int} {x : ST} (h : IV B x) (hn : 0 ≤ n ∧ n ≤ xN x 6) : IV B (uN x 6 n) := by
  have m : ∀ j, j ≠ 6 → xN (uN x 6 n) j = xN x j := fun j hj => uN_n x _ hj
  exact IV_k h rfl rfl rfl (m 1 (by decide)) (m 2 (by decide)) (Or.inl (m 0 (by decide))) (Or.inl (m 3 (by decide))) (Or.inl (m 4 (by decide))) (Or.inl (m 5 (by decide))) (Or.inr (by rw [uN_s]; exact hn)) (m 9 (by decide)) (Or.inl (m 10 (by decide))) (Or.inl (m 11 (by decide))) (Or.inl (m 12 (by decide))) (Or.inl (m 13 (by decide))) (fun j j0 j1 => Or.inl (m j (by omega)))
theorem IV_pb {B c : Int} {x : ST} (h : IV B x) (h6 : xN x 6 < 1800) (hc : 0 ≤ c ∧ c ≤ 255) : IV B (xPb x c) := by
  have m : ∀ j, j ≠ 6 → xN (xPb x c) j = xN x j := fun j hj => uN_n (uT x _) _ hj
  have m6 : xN (xPb x c) 6 = xN x 6 + 1 := uN_s (uT x _) _ _
  have h' := h
  obtain ⟨a1, a2, a3, a4, a5, a6, a7, a8, a9, a10, a11, a12, a13, a14, a15, a16, a17, a18, a19⟩ := h
  refine IV_n h' rfl rfl rfl (m 1 (by decide)) (m 2 (by decide)) (by rw [m 0 (by decide)]; exact a4) (by rw [m 3 (by decide)]; exact a7) (by rw [m 4 (by decide)]; exact a8) (by rw [m 5 (by decide)]; exact a9) (by rw [m6]; omega) (by rw [m 9 (by decide)]; exact a11) (by rw [m 10 (by decide)]; exact a12) (by rw [m 11 (by decide)]; exact a13) (by rw [m 12 (by decide)]; exact a14) (by rw [m 13 (by decide)]; exact a15) (fun k k0 k1 => by rw [m k (by omega)]; exact a16 k k0 k1) (fun i i0 i1 => ?_)
  rw [m6] at i1
  show 0 ≤ upI x.2.2.2.2.1 (xN x 6) c i ∧ upI x.2.2.2.2.1 (xN x 6) c i ≤ 255
  by_cases z : i = xN x 6
  · rw [z, upI_s]; exact hc
  · rw [upI_n _ _ z]; exact a19 i i0 (by omega)
theorem bt_r (v : Int) (s : Nat) : 0 ≤ bt v s ∧ bt v s ≤ 255 := by
  unfold bt
  generalize v / 2 ^ s = y
  omega
theorem IV_fd {B v : Int} {x : ST} (h : IV B x) (h6 : xN x 6 + 4 ≤ 1800) : IV B (xFd x v) := by
  unfold xFd
  refine IV_pb (IV_pb (IV_pb (IV_pb h (by omega) (bt_r v 24)) ?_ (bt_r v 16)) ?_ (bt_r v 8)) ?_ (bt_r v 0)
  · rw [xPb_6]; omega
  · rw [xPb_6, xPb_6]; omega
  · rw [xPb_6, xPb_6, xPb_6]; omega
theorem IV_feed {B : Int} {x : ST} (h : IV B x) (a b c d e : Int) : IV (B + 1) (xFeed x a b c d e) := by
  unfold xFeed
  by_cases z : xN x 6 + 20 ≤ 1800
  · rw [if_pos z]
    refine IV_fd (IV_fd (IV_fd (IV_fd (IV_fd (IV_mono h (by omega)) (by omega)) ?_) ?_) ?_) ?_
    · rw [xFd_6]; omega
    · rw [xFd_6, xFd_6]; omega
    · rw [xFd_6, xFd_6, xFd_6]; omega
    · rw [xFd_6, xFd_6, xFd_6, xFd_6]; omega
  · rw [if_neg z]; exact IV_rf h (by decide)
theorem IV_end {B : Int} {x : ST} (h : IV B x) (n : Int) : IV (B + 1) (xEnd x n) := by
  unfold xEnd
  by_cases z : 0 ≤ n ∧ n ≤ xN x 6
  · rw [if_pos z]; exact IV_6 (IV_mono h (by omega)) z
  · rw [if_neg z]; exact IV_rf h (by decide)
theorem IV_errs {B : Int} {x : ST} (h : IV B x) (pl v : Int) : IV (B + 1) (xErrs x pl v) := by
  unfold xErrs
  by_cases z : (0 ≤ pl ∧ pl ≤ 1) ∧ (0 ≤ v ∧ v ≤ 100)
  · rw [if_pos z]
    have m : ∀ j, j ≠ 12 + pl → xN (uN x (12 + pl) v) j = xN x j := fun j hj => uN_n x _ hj
    refine IV_k (IV_mono h (by omega)) rfl rfl rfl (m 1 (by omega)) (m 2 (by omega)) (Or.inl (m 0 (by omega))) (Or.inl (m 3 (by omega))) (Or.inl (m 4 (by omega))) (Or.inl (m 5 (by omega))) (Or.inl (m 6 (by omega))) (m 9 (by omega)) (Or.inl (m 10 (by omega))) (Or.inl (m 11 (by omega))) ?_ ?_ (fun j j0 j1 => Or.inl (m j (by omega)))
    · by_cases y : pl = 0
      · subst y; exact Or.inr (by rw [show xN (uN x (12 + 0) v) 12 = v from uN_s x (12 + 0) v]; exact z.2)
      · exact Or.inl (m 12 (by omega))
    · by_cases y : pl = 1
      · subst y; exact Or.inr (by rw [show (13 : Int) = 12 + 1 from rfl, uN_s]; exact z.2)
      · exact Or.inl (m 13 (by omega))
  · rw [if_neg z]; exact IV_rf h (by decide)
theorem IV_kind {B : Int} {x : ST} (h : IV B x) (pl v : Int) : IV (B + 1) (xKind x pl v) := by
  unfold xKind
  by_cases z : (0 ≤ pl ∧ pl ≤ 1) ∧ (0 ≤ v ∧ v ≤ 2)
  · rw [if_pos z]
    have m : ∀ j, j ≠ 10 + pl → xN (uN x (10 + pl) v) j = xN x j := fun j hj => uN_n x _ hj
    refine IV_k (IV_mono h (by omega)) rfl rfl rfl (m 1 (by omega)) (m 2 (by omega)) (Or.inl (m 0 (by omega))) (Or.inl (m 3 (by omega))) (Or.inl (m 4 (by omega))) (Or.inl (m 5 (by omega))) (Or.inl (m 6 (by omega))) (m 9 (by omega)) ?_ ?_ (Or.inl (m 12 (by omega))) (Or.inl (m 13 (by omega))) (fun j j0 j1 => Or.inl (m j (by omega)))
    · by_cases y : pl = 0
      · subst y; exact Or.inr (by rw [show xN (uN x (10 + 0) v) 10 = v from uN_s x (10 + 0) v]; exact z.2)
      · exact Or.inl (m 10 (by omega))
    · by_cases y : pl = 1
      · subst y; exact Or.inr (by rw [show (11 : Int) = 10 + 1 from rfl, uN_s]; exact z.2)
      · exact Or.inl (m 11 (by omega))
  · rw [if_neg z]; exact IV_rf h (by decide)
theorem IV_move {B : Int} {x : ST} (h : IV B x) (k g : Int) : IV (B + 1) (xMove x k g) := by
  unfold xMove
  by_cases z : mvO x k g
  · rw [if_pos z]
    have hG := h.1
    have h3 := h.2.2.2.2.2.2.1
    have h4 := h.2.2.2.2.2.2.2.1
    have m : ∀ j, j ≠ 3 → j ≠ 4 → j ≠ 5 → xN (uN (uN (uN x 5 (enD (xG x) (xS x) (xN x 3) (10 * k + g))) 3 (beh (xG x) (xN x 3) k g)) 4 (xN x 4 + 1)) j = xN x j := fun j j3 j4 j5 => by rw [uN_n _ _ j4, uN_n _ _ j3, uN_n _ _ j5]
    refine IV_k (IV_mono h (by omega)) rfl rfl rfl (m 1 (by decide) (by decide) (by decide)) (m 2 (by decide) (by decide) (by decide)) (Or.inl (m 0 (by decide) (by decide) (by decide))) (Or.inr ?_) (Or.inr ?_) (Or.inr ?_) (Or.inl (m 6 (by decide) (by decide) (by decide))) (m 9 (by decide) (by decide) (by decide)) (Or.inl (m 10 (by decide) (by decide) (by decide))) (Or.inl (m 11 (by decide) (by decide) (by decide))) (Or.inl (m 12 (by decide) (by decide) (by decide))) (Or.inl (m 13 (by decide) (by decide) (by decide))) (fun j j0 j1 => Or.inl (m j (by omega) (by omega) (by omega)))
    · rw [uN_n _ _ (by decide), uN_s]
      have := beh_r hG (k := k) h3.1 z.2.2.1
      exact ⟨this.1, this.2, fun q => absurd q z.1⟩
    · rw [uN_s]; omega
    · rw [uN_n _ _ (by decide), uN_n _ _ (by decide), uN_s]
      unfold enD
      by_cases q1 : nxt (xG x) (xS x) (xN x 3) (10 * k + g) = -1
      · rw [if_pos q1]; omega
      · rw [if_neg q1]
        by_cases q2 : nxt (xG x) (xS x) (xN x 3) (10 * k + g) = -2
        · rw [if_pos q2]; omega
        · rw [if_neg q2]; exact ⟨by decide, by decide⟩
  · rw [if_neg z]; exact IV_rf h (by decide)
theorem IV_mk {B c : Int} {x : ST} (h : IV B x) (hc : chg (xG x) (xS x) c = 1) : IV B (uS (xKp x) (app (xS x) c)) := by
  obtain ⟨a1, a2, a3, a4, a5, a6, a7, a8, a9, a10, a11, a12, a13, a14, a15, a16, a17, a18, a19⟩ := h
  have m : ∀ j, j ≠ 1 → xN (uS (xKp x) (app (xS x) c)) j = xN x j := fun j hj => xKp_n x hj
  have m1 : xN (uS (xKp x) (app (xS x) c)) 1 = if xN x 1 = 40 then 40 else xN x 1 + 1 := xKp_1 x
  refine ⟨a1, app_ok a1 a2 hc, app_nm a2 a3 hc, by rw [m 0 (by decide)]; exact a4, ?_, by rw [m 2 (by decide)]; exact a6, by rw [m 3 (by decide)]; exact a7, by rw [m 4 (by decide)]; exact a8, by rw [m 5 (by decide)]; exact a9, by rw [m 6 (by decide)]; exact a10, by rw [m 9 (by decide)]; exact a11, by rw [m 10 (by decide)]; exact a12, by rw [m 11 (by decide)]; exact a13, by rw [m 12 (by decide)]; exact a14, by rw [m 13 (by decide)]; exact a15, fun k k0 k1 => by rw [m k (by omega)]; exact a16 k k0 k1, fun i i0 i1 => ?_, fun e => ?_, fun i i0 i1 => ?_⟩
  · rw [m1]
    by_cases z : xN x 1 = 40
    · rw [if_pos z]; exact ⟨by decide, by decide⟩
    · rw [if_neg z]; omega
  · show SOK (xG x) (kpH x i) ∧ SNM (xG x) (kpH x i)
    rw [m1] at i1
    unfold kpH
    by_cases z : xN x 1 = 40
    · rw [if_pos z] at i1 ⊢
      by_cases y : i = 39
      · rw [if_pos y]; exact ⟨a2, a3⟩
      · rw [if_neg y, if_pos (by omega)]; exact a17 (i + 1) (by omega) (by omega)
    · rw [if_neg z] at i1 ⊢
      by_cases y : i = xN x 1
      · rw [if_pos y]; exact ⟨a2, a3⟩
      · rw [if_neg y]; exact a17 i i0 (by omega)
  · rw [m 2 (by decide)] at e
    show SOK (xG x) (kpH x 40) ∧ SNM (xG x) (kpH x 40)
    have : kpH x 40 = xH x 40 := by
      unfold kpH
      by_cases z : xN x 1 = 40
      · rw [if_pos z, if_neg (by decide), if_neg (by decide)]
      · rw [if_neg z, if_neg (fun q => z q.symm)]
    rw [this]; exact a18 e
  · rw [m 6 (by decide)] at i1
    exact a19 i i0 i1
theorem IV_make {B : Int} {x : ST} (h : IV B x) (c : Int) : IV (B + 1) (xMake x c) := by
  unfold xMake
  by_cases z : chg (xG x) (xS x) c = 1
  · rw [if_pos z]; exact IV_mono (IV_an (IV_mk h z)) (by omega)
  · rw [if_neg z]; exact IV_rf h (by decide)
theorem IV_undo {B : Int} {x : ST} (h : IV B x) : IV (B + 1) (xUndo x) := by
  unfold xUndo
  by_cases z : xN x 1 = 0
  · rw [if_pos z]; exact IV_rf h (by decide)
  · rw [if_neg z]
    refine IV_mono (IV_an ?_) (show B ≤ B + 1 by omega)
    obtain ⟨a1, a2, a3, a4, a5, a6, a7, a8, a9, a10, a11, a12, a13, a14, a15, a16, a17, a18, a19⟩ := h
    have m : ∀ j, j ≠ 1 → xN (uN (uS x (xH x (xN x 1 - 1))) 1 (xN x 1 - 1)) j = xN x j := fun j hj => uN_n (uS x _) _ hj
    have m1 : xN (uN (uS x (xH x (xN x 1 - 1))) 1 (xN x 1 - 1)) 1 = xN x 1 - 1 := uN_s (uS x _) _ _
    have hs := a17 (xN x 1 - 1) (by omega) (by omega)
    refine ⟨a1, hs.1, hs.2, by rw [m 0 (by decide)]; exact a4, by rw [m1]; omega, by rw [m 2 (by decide)]; exact a6, by rw [m 3 (by decide)]; exact a7, by rw [m 4 (by decide)]; exact a8, by rw [m 5 (by decide)]; exact a9, by rw [m 6 (by decide)]; exact a10, by rw [m 9 (by decide)]; exact a11, by rw [m 10 (by decide)]; exact a12, by rw [m 11 (by decide)]; exact a13, by rw [m 12 (by decide)]; exact a14, by rw [m 13 (by decide)]; exact a15, fun k k0 k1 => by rw [m k (by omega)]; exact a16 k k0 k1, fun i i0 i1 => ?_, fun e => ?_, fun i i0 i1 => ?_⟩
    · rw [m1] at i1
      exact a17 i i0 (by omega)
    · rw [m 2 (by decide)] at e
      exact a18 e
    · rw [m 6 (by decide)] at i1
      exact a19 i i0 i1
theorem IV_sunday {B : Int} {x : ST} (h : IV B x) : IV (B + 1) (xSunday x) := by
  unfold xSunday
  by_cases z : qF (xG x) = 0
  · rw [if_pos z]; exact IV_mono h (by omega)
  · rw [if_neg z]
    have hS : IV B (xSund x) := by
      unfold xSund
      by_cases y : cbS x = -1
      · rw [if_pos y]; exact h
      · rw [if_neg y]
        rcases cbS_ok x with q | q
        · exact absurd q y
        · exact IV_mk h q
    have e0 : xN (xSund x) 0 = xN x 0 := by
      unfold xSund
      by_cases y : cbS x = -1
      · rw [if_pos y]
      · rw [if_neg y]; exact xKp_n x (by decide)
    have eG : xG (xSund x) = xG x := by
      unfold xSund
      by_cases y : cbS x = -1
      · rw [if_pos y]
      · rw [if_neg y]; rfl
    refine IV_an ?_
    have m : ∀ j, j ≠ 0 → xN (uN (xSund x) 0 (xN x 0 + 1)) j = xN (xSund x) j := fun j hj => uN_n _ _ hj
    have h0 := h.2.2.2.1
    refine IV_k (IV_mono hS (by omega)) rfl rfl rfl (m 1 (by decide)) (m 2 (by decide)) (Or.inr ?_) (Or.inl (m 3 (by decide))) (Or.inl (m 4 (by decide))) (Or.inl (m 5 (by decide))) (Or.inl (m 6 (by decide))) (m 9 (by decide)) (Or.inl (m 10 (by decide))) (Or.inl (m 11 (by decide))) (Or.inl (m 12 (by decide))) (Or.inl (m 13 (by decide))) (fun j j0 j1 => Or.inl (m j (by omega)))
    rw [uN_s, eG]
    exact ⟨by omega, by omega, fun q => absurd q z⟩
theorem IV_spr {B : Int} {x : ST} (h : IV B x) : IV B (xSpr x) := by
  obtain ⟨a1, a2, a3, a4, a5, a6, a7, a8, a9, a10, a11, a12, a13, a14, a15, a16, a17, a18, a19⟩ := h
  have m : ∀ j, j ≠ 2 → xN (xSpr x) j = xN x j := fun j hj => uN_n (uH x _) _ hj
  have m2 : xN (xSpr x) 2 = 1 := uN_s (uH x _) _ _
  have eH : ∀ i, xH (xSpr x) i = if i = 40 then xS x else xH x i := fun i => rfl
  refine ⟨a1, a2, a3, by rw [m 0 (by decide)]; exact a4, by rw [m 1 (by decide)]; exact a5, Or.inr m2, by rw [m 3 (by decide)]; exact a7, by rw [m 4 (by decide)]; exact a8, by rw [m 5 (by decide)]; exact a9, by rw [m 6 (by decide)]; exact a10, by rw [m 9 (by decide)]; exact a11, by rw [m 10 (by decide)]; exact a12, by rw [m 11 (by decide)]; exact a13, by rw [m 12 (by decide)]; exact a14, by rw [m 13 (by decide)]; exact a15, fun k k0 k1 => by rw [m k (by omega)]; exact a16 k k0 k1, fun i i0 i1 => ?_, fun e => ?_, fun i i0 i1 => ?_⟩
  · rw [m 1 (by decide)] at i1
    rw [eH, if_neg (by omega)]; exact a17 i i0 i1
  · rw [eH, if_pos rfl]; exact ⟨a2, a3⟩
  · rw [m 6 (by decide)] at i1
    exact a19 i i0 i1
theorem imP_h (s : SL) : ∀ (n : Nat) (p : Int) (x : ST), (imP s n p x).1 = x.1 ∧ (imP s n p x).2.1 = x.2.1 ∧ (imP s n p x).2.2.2.1 = x.2.2.2.1 ∧ (imP s n p x).2.2.2.2.1 = x.2.2.2.2.1 := by
  intro n
  induction n with
  | zero => intro p x; exact ⟨rfl, rfl, rfl, rfl⟩
  | succ n ih =>
    intro p x
    rw [imP]
    exact ih (p + 1) (xPi (xPi (xPi x (sA s p)) (sX s (sA s p) + 2 * sT s (sA s p))) (sN s (sA s p)))
theorem xPi_h (x : ST) (v : Int) : (xPi x v).1 = x.1 ∧ (xPi x v).2.1 = x.2.1 ∧ (xPi x v).2.2.2.1 = x.2.2.2.1 ∧ (xPi x v).2.2.2.2.1 = x.2.2.2.2.1 := ⟨rfl, rfl, rfl, rfl⟩
theorem imQ_h (x : ST) : (imQ x).1 = x.1 ∧ (imQ x).2.1 = x.2.1 ∧ (imQ x).2.2.2.1 = x.2.2.2.1 ∧ (imQ x).2.2.2.2.1 = x.2.2.2.2.1 ∧ xN (imQ x) 9 = xN x 9 + 6 ∧ ∀ j, j ≠ 9 → xN (imQ x) j = xN x j := by
  unfold imQ
  generalize xN x 0 / 256 = v1
  generalize hv2 : xN x 0 = v2
  generalize hv3 : xN x 10 = v3
  generalize hv4 : xN x 11 = v4
  generalize hv5 : xN x 12 = v5
  generalize hv6 : xN x 13 = v6
  refine ⟨?_, ?_, ?_, ?_, ?_, fun j hj => ?_⟩
  · rw [(xPi_h _ v6).1, (xPi_h _ v5).1, (xPi_h _ v4).1, (xPi_h _ v3).1, (xPi_h _ v2).1, (xPi_h _ v1).1]
  · rw [(xPi_h _ v6).2.1, (xPi_h _ v5).2.1, (xPi_h _ v4).2.1, (xPi_h _ v3).2.1, (xPi_h _ v2).2.1, (xPi_h _ v1).2.1]
  · rw [(xPi_h _ v6).2.2.1, (xPi_h _ v5).2.2.1, (xPi_h _ v4).2.2.1, (xPi_h _ v3).2.2.1, (xPi_h _ v2).2.2.1, (xPi_h _ v1).2.2.1]
  · rw [(xPi_h _ v6).2.2.2, (xPi_h _ v5).2.2.2, (xPi_h _ v4).2.2.2, (xPi_h _ v3).2.2.2, (xPi_h _ v2).2.2.2, (xPi_h _ v1).2.2.2]
  · rw [xPi_9, xPi_9, xPi_9, xPi_9, xPi_9, xPi_9]; omega
  · rw [xPi_n _ v6 hj, xPi_n _ v5 hj, xPi_n _ v4 hj, xPi_n _ v3 hj, xPi_n _ v2 hj, xPi_n _ v1 hj]
theorem img_h (x : ST) : (xImg x).1 = x.1 ∧ (xImg x).2.1 = x.2.1 ∧ (xImg x).2.2.2.1 = x.2.2.2.1 ∧ (xImg x).2.2.2.2.1 = x.2.2.2.2.1 ∧ xN (xImg x) 9 = 8 + 3 * (qR (xG x)).toNat ∧ ∀ j, j ≠ 9 → xN (xImg x) j = xN x j := by
  unfold xImg imC
  obtain ⟨p1, p2, -⟩ := imP_s (xS x) (qR (xG x)).toNat 0 (xPi (uN x 9 0) (qR (xG x)))
  obtain ⟨q1, q2, q3, q4⟩ := imP_h (xS x) (qR (xG x)).toNat 0 (xPi (uN x 9 0) (qR (xG x)))
  have r1 : xN (xPi (uN x 9 0) (qR (xG x))) 9 = 1 := by rw [xPi_9, uN_s]; rfl
  have r2 : ∀ j, j ≠ 9 → xN (xPi (uN x 9 0) (qR (xG x))) j = xN x j := fun j hj => by rw [xPi_n _ _ hj, uN_n _ _ hj]
  have r3 := xPi_h (uN x 9 0) (qR (xG x))
  generalize xPi (uN x 9 0) (qR (xG x)) = w at *
  generalize imP (xS x) (qR (xG x)).toNat 0 w = y at *
  obtain ⟨s1, s2, s3, s4, s5, s6⟩ := imQ_h y
  generalize imQ y = z at *
  generalize chkF z.2.2.2.2.2 (xN z 9).toNat 0 37 = v
  obtain ⟨t1, t2, t3, t4⟩ := xPi_h z v
  refine ⟨?_, ?_, ?_, ?_, ?_, fun j hj => ?_⟩
  · rw [t1, s1, q1]; exact r3.1
  · rw [t2, s2, q2]; exact r3.2.1
  · rw [t3, s3, q3]; exact r3.2.2.1
  · rw [t4, s4, q4]; exact r3.2.2.2
  · rw [xPi_9, s5, p1, r1]; omega
  · rw [xPi_n _ _ hj, s6 j hj, p2 j hj, r2 j hj]
theorem IV_img {B : Int} {x : ST} (h : IV B x) : IV B (xImg x) := by
  have h' := h
  obtain ⟨a1, a2, a3, a4, a5, a6, a7, a8, a9, a10, a11, a12, a13, a14, a15, a16, a17, a18, a19⟩ := h
  have hR := a1.2.2.1
  obtain ⟨q1, q2, q3, eT, m9, m⟩ := img_h x
  generalize xImg x = y at *
  refine IV_n h' q1 q2 q3 (m 1 (by decide)) (m 2 (by decide)) (by rw [m 0 (by decide)]; exact a4) (by rw [m 3 (by decide)]; exact a7) (by rw [m 4 (by decide)]; exact a8) (by rw [m 5 (by decide)]; exact a9) (by rw [m 6 (by decide)]; exact a10) (by rw [m9]; omega) (by rw [m 10 (by decide)]; exact a12) (by rw [m 11 (by decide)]; exact a13) (by rw [m 12 (by decide)]; exact a14) (by rw [m 13 (by decide)]; exact a15) (fun k k0 k1 => by rw [m k (by omega)]; exact a16 k k0 k1) (fun i i0 i1 => ?_)
  rw [m 6 (by decide)] at i1
  have : xT y i = xT x i := by unfold xT; rw [eT]
  rw [this]; exact a19 i i0 i1
theorem IV_on {B : Int} {x : ST} (h : IV B x) : IV (B + 1) (xOn x) := by
  unfold xOn
  by_cases z : okI x = 1
  · rw [if_pos z]
    obtain ⟨o1, o2, o3, o4, o5, o6⟩ := okI_o z
    obtain ⟨a1, a2, a3, a4, a5, a6, a7, a8, a9, a10, a11, a12, a13, a14, a15, a16, a17, a18, a19⟩ := h
    have hR := a1.2.2.1
    have hT : ∀ i, 0 ≤ i → i < 8 + 3 * qR (xG x) → 0 ≤ xT x i ∧ xT x i ≤ 255 := fun i i0 i1 => a19 i i0 (by omega)
    have hs := slF_ok a1 a2 a3 (tpO_of a1 hT o5)
    have hp : xT x (3 + 3 * qR (xG x)) ≤ 2 ∧ xT x (4 + 3 * qR (xG x)) ≤ 2 ∧ xT x (5 + 3 * qR (xG x)) ≤ 100 ∧ xT x (6 + 3 * qR (xG x)) ≤ 100 := by
      unfold pyI at o6
      by_cases q : xT x (3 + 3 * qR (xG x)) ≤ 2 ∧ xT x (4 + 3 * qR (xG x)) ≤ 2 ∧ xT x (5 + 3 * qR (xG x)) ≤ 100 ∧ xT x (6 + 3 * qR (xG x)) ≤ 100
      · exact q
      · rw [if_neg q] at o6; exact absurd o6 (by decide)
    have t1 := hT (1 + 3 * qR (xG x)) (by omega) (by omega)
    have t2 := hT (2 + 3 * qR (xG x)) (by omega) (by omega)
    have t3 := hT (3 + 3 * qR (xG x)) (by omega) (by omega)
    have t4 := hT (4 + 3 * qR (xG x)) (by omega) (by omega)
    have t5 := hT (5 + 3 * qR (xG x)) (by omega) (by omega)
    have t6 := hT (6 + 3 * qR (xG x)) (by omega) (by omega)
    have m : ∀ j, (j ≠ 0 ∧ j ≠ 1 ∧ j ≠ 10 ∧ j ≠ 11 ∧ j ≠ 12 ∧ j ≠ 13) → xN (onY x) j = xN x j := fun j hj => onN_n x hj
    have m0 : xN (onY x) 0 = 256 * xT x (1 + 3 * qR (xG x)) + xT x (2 + 3 * qR (xG x)) := rfl
    have m1 : xN (onY x) 1 = 0 := rfl
    have m10 : xN (onY x) 10 = xT x (3 + 3 * qR (xG x)) := rfl
    have m11 : xN (onY x) 11 = xT x (4 + 3 * qR (xG x)) := rfl
    have m12 : xN (onY x) 12 = xT x (5 + 3 * qR (xG x)) := rfl
    have m13 : xN (onY x) 13 = xT x (6 + 3 * qR (xG x)) := rfl
    have hy : IV B (onY x) := by
      refine ⟨a1, hs.1, hs.2, ?_, by rw [m1]; exact ⟨by decide, by decide⟩, by rw [m 2 (by decide)]; exact a6, by rw [m 3 (by decide)]; exact a7, by rw [m 4 (by decide)]; exact a8, by rw [m 5 (by decide)]; exact a9, by rw [m 6 (by decide)]; exact a10, by rw [m 9 (by decide)]; exact a11, by rw [m10]; omega, by rw [m11]; omega, by rw [m12]; omega, by rw [m13]; omega, fun k k0 k1 => by rw [m k (by omega)]; exact a16 k k0 k1, fun i i0 i1 => ?_, fun e => ?_, fun i i0 i1 => ?_⟩
      · rw [m0]
        exact ⟨by omega, by omega, fun q => absurd q o1⟩
      · rw [m1] at i1; omega
      · rw [m 2 (by decide)] at e
        exact a18 e
      · rw [m 6 (by decide)] at i1
        exact a19 i i0 i1
    refine IV_mono (IV_6 (IV_an hy) ?_) (by omega)
    rw [xAn_n (by decide) (by decide) (by decide), m 6 (by decide)]
    omega
  · rw [if_neg z]
    refine IV_6 (IV_rf h (by decide)) ?_
    have : xN (xRf x 5) 6 = xN x 6 := uN_n x _ (by decide)
    rw [this]
    have := h.2.2.2.2.2.2.2.2.2.1
    omega
theorem gml_ok {K : TKs} {N : Int} (hN : lsT K N) (hN8 : N ≤ 1800) (hnu : ∀ k, K.1 k = 3 → 0 ≤ K.2.2.2 k ∧ K.2.2.2 k ≤ 9999) (hnm : ∀ k, k ≤ N → K.1 k = 2 → 0 ≤ k → nmL (K.2.2.1 k)) : ∀ (f : Nat) (c k : Int) (s : GS) (m : Int) (t : GS), 0 ≤ k → k ≤ N → gsO s k → gml K f c k s = Sum.inr (m, t) → gsO t 1800 := by
  intro f
  induction f with
  | zero => intro c k s m t _ _ _ e; cases e
  | succ f ih =>
    intro c k s m t k0 k1 hs e
    rw [gml] at e
    by_cases z : K.1 k = 0
    · rw [if_pos z] at e
      have e' := Sum.inr.inj e
      have e2 : s = t := congrArg Prod.snd e'
      rw [← e2]; exact gsO_m hs (by omega)
    · rw [if_neg z] at e
      have ho := (okS_smt hN hnu hnm k0 k1 hs).2
      generalize smt K s k = r at *
      cases r with
      | inl q => cases e
      | inr q =>
        obtain ⟨j, u⟩ := q
        have := ho j u rfl
        exact ih (c + 1) j u m t (by omega) this.2.1 this.2.2 e
theorem gmS_ok {T : Int → Int} {n : Int} (hn : 0 ≤ n ∧ n ≤ 1800) {m : Int} {s : GS} (h : gmS (tkK T n) = Sum.inr (m, s)) : gsO s 1800 := by
  obtain ⟨N, hL⟩ := lstK_ex (T := T) (n := n) hn.1
  have hNn := hL.2.1
  have hls : lsT (tkK T n) N := hL.2.2.2
  have hb := okS_bdS hls hL.1
  unfold gmS at h
  generalize bdS (tkK T n) = r at *
  cases r with
  | inl q => cases h
  | inr q =>
    obtain ⟨j, u⟩ := q
    have := hb j u rfl
    exact gml_ok hls (by omega) (tk_nu hn.1) (tk_nm (N := N) hn.1) 2000 1 j u m s (by omega) this.2.1 this.2.2 h
theorem IV_game {B : Int} {x : ST} (h : IV B x) : IV (B + 1) (xGm x) := by
  have h6 := h.2.2.2.2.2.2.2.2.2.1
  unfold xGm
  cases hR : gmS (tkK (xT x) (xN x 6)) with
  | inl e =>
    obtain ⟨kd, p⟩ := e
    show IV (B + 1) (xRf (uN (uN (uN x 6 0) 7 kd) 8 p) 1)
    refine IV_rf ?_ (by decide)
    have m : ∀ j, j ≠ 6 → j ≠ 7 → j ≠ 8 → xN (uN (uN (uN x 6 0) 7 kd) 8 p) j = xN x j := fun j j1 j2 j3 => by rw [uN_n _ _ j3, uN_n _ _ j2, uN_n _ _ j1]
    exact IV_k h rfl rfl rfl (m 1 (by decide) (by decide) (by decide)) (m 2 (by decide) (by decide) (by decide)) (Or.inl (m 0 (by decide) (by decide) (by decide))) (Or.inl (m 3 (by decide) (by decide) (by decide))) (Or.inl (m 4 (by decide) (by decide) (by decide))) (Or.inl (m 5 (by decide) (by decide) (by decide))) (Or.inr (by rw [uN_n _ _ (by decide), uN_n _ _ (by decide), uN_s]; omega)) (m 9 (by decide) (by decide) (by decide)) (Or.inl (m 10 (by decide) (by decide) (by decide))) (Or.inl (m 11 (by decide) (by decide) (by decide))) (Or.inl (m 12 (by decide) (by decide) (by decide))) (Or.inl (m 13 (by decide) (by decide) (by decide))) (fun j j0 j1 => Or.inl (m j (by omega) (by omega) (by omega)))
  | inr q =>
    obtain ⟨m, s⟩ := q
    have hs := gmS_ok h6 hR
    have hG := GOK_q hs
    obtain ⟨a1, a2, a3, a4, a5, a6, a7, a8, a9, a10, a11, a12, a13, a14, a15, a16, a17, a18, a19⟩ := h
    -- the numbers of the position are set anew; before that they are held against no board
    have hF : qF (gmQ s) ≠ 0 := by rw [gq_F]; have := hs.1; omega
    show IV (B + 1) (xAn (gmY x s))
    have hbr := beg_r hG (d := 0)
    have g0 : ∀ k, (k = 0 ∨ k = 1 ∨ k = 2 ∨ k = 6 ∨ k = 7 ∨ k = 10 ∨ k = 11 ∨ k = 12 ∨ k = 13) → xN (xAn (gmY x s)) k = 0 := fun k hk => by rw [xAn_n (by omega) (by omega) (by omega)]; exact gN_0 x s hk
    have eG : xG (xAn (gmY x s)) = gmQ s := rfl
    have eS : xS (xAn (gmY x s)) = toldS (gmQ s) := rfl
    unfold IV
    rw [eG, eS, xAn_3, xAn_4, xAn_5, g0 0 (by omega), g0 1 (by omega), g0 2 (by omega), g0 6 (by omega), g0 10 (by omega), g0 11 (by omega), g0 12 (by omega), g0 13 (by omega), gN_0 x s (k := 0) (by omega), xAn_n (j := 9) (by decide) (by decide) (by decide), gN_n x s (k := 9) (by decide) (by decide)]
    refine ⟨hG, toldS_ok hG, toldS_nm _, ⟨by decide, by omega, fun _ => rfl⟩, ⟨by decide, by decide⟩, Or.inl rfl, ⟨hbr.1, hbr.2, fun z => absurd z hF⟩, ⟨by decide, by omega⟩, ⟨by decide, by decide⟩, ⟨by decide, by decide⟩, a11, ⟨by decide, by decide⟩, ⟨by decide, by decide⟩, ⟨by decide, by decide⟩, ⟨by decide, by decide⟩, fun k k0 k1 => ?_, fun i i0 i1 => by omega, fun e => by omega, fun i i0 i1 => by omega⟩
    rw [xAn_n (by omega) (by omega) (by omega), gN_n x s (by omega) (by omega)]
    have := a16 k k0 k1
    omega
