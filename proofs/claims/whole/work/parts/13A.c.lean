/-! printed by wip/gen/gen_all.py: contracts of the leaves -/
theorem c_Bytes_put {S : ASh} {V : ASt} {x0 x1 : Int} {r : Int} {V' : ASt} (h : f_Bytes_put S V x0 x1 = some (r, V')) : ACt m_Bytes_put 2 0 0 [(aR x0), (aI x1)] S V none S V' := by
  unfold f_Bytes_put at h
  obtain ⟨hO, h⟩ := gd_some h
  refine ACt_of (plainFor_of_name rfl) rfl (Nat.le_of_ble_eq_true rfl) ?_
  show AWk m_Bytes_put 2 0 0 0 0 0 [some (aR x0), some (aI x1)] [] S V none S V'
  refine Ak_aload_n 1 0 (d_Bytes_put 0 0 (.aload_n 0) 1 rfl) rfl rfl rfl ?_
  refine Ak_getI 4 0 hO clX0 (by decide) (Or.inl rfl) lkF_Bytes_9 (d_Bytes_put 1 1 (.getfield 9) 3 rfl) rfl ?_
  refine Ak_if_lt 43 7 (d_Bytes_put 2 4 (.ifCond .lt 39) 3 rfl) rfl rfl (fun hc => ?_) (fun hc => ?_)
  · replace h := it_t hc h
    cases h
    exact Ak_vret rfl (d_Bytes_put 23 43 (.return_) 1 rfl)
  · replace h := it_f hc h
    refine Ak_aload_n 8 0 (d_Bytes_put 3 7 (.aload_n 0) 1 rfl) rfl rfl rfl ?_
    refine Ak_getI 11 0 hO clX0 (by decide) (Or.inl rfl) lkF_Bytes_9 (d_Bytes_put 4 8 (.getfield 9) 3 rfl) rfl ?_
    refine Ak_aload_n 12 0 (d_Bytes_put 5 11 (.aload_n 0) 1 rfl) rfl rfl rfl ?_
    refine Ak_getF 15 1 hO clX0 (by decide) rfl lkF_Bytes_21 (d_Bytes_put 6 12 (.getfield 21) 3 rfl) rfl ?_
    obtain ⟨hg1, h⟩ := gd_some h
    refine Ak_alen (c := 0) 16 hg1 (by decide) (d_Bytes_put 7 15 (.arraylength) 1 rfl) rfl ?_
    refine Ak_icmp_ge 43 19 (d_Bytes_put 8 16 (.if_icmp .ge 27) 3 rfl) rfl rfl (fun hc => ?_) (fun hc => ?_)
    · replace h := it_t hc h
      cases h
      exact Ak_vret rfl (d_Bytes_put 23 43 (.return_) 1 rfl)
    · replace h := it_f hc h
      refine Ak_aload_n 20 0 (d_Bytes_put 9 19 (.aload_n 0) 1 rfl) rfl rfl rfl ?_
      refine Ak_getF 23 1 hO clX0 (by decide) rfl lkF_Bytes_21 (d_Bytes_put 10 20 (.getfield 21) 3 rfl) rfl ?_
      refine Ak_aload_n 24 0 (d_Bytes_put 11 23 (.aload_n 0) 1 rfl) rfl rfl rfl ?_
      refine Ak_getI 27 0 hO clX0 (by decide) (Or.inl rfl) lkF_Bytes_9 (d_Bytes_put 12 24 (.getfield 9) 3 rfl) rfl ?_
      refine Ak_iload_n 28 1 (d_Bytes_put 13 27 (.iload_n 1) 1 rfl) rfl rfl rfl ?_
      refine Ak_sipush 31 (d_Bytes_put 14 28 (.sipush 255) 3 rfl) rfl (sp_ok rfl) (rk rfl) ?_
      refine Ak_iand 32 (d_Bytes_put 15 31 (.iand) 1 rfl) rfl ?_
      obtain ⟨ha2, h⟩ := gd_some h
      refine Ak_iastore 33 ha2 (d_Bytes_put 16 32 (.iastore) 1 rfl) rfl (fun V3 hV3 => ?_)
      replace h := wV_some h V3 hV3
      refine Ak_aload_n 34 0 (d_Bytes_put 17 33 (.aload_n 0) 1 rfl) rfl rfl rfl ?_
      refine Ak_dup 35 (d_Bytes_put 18 34 (.dup) 1 rfl) rfl rfl ?_
      refine Ak_getI 38 0 hO clX0 (by decide) (Or.inl rfl) lkF_Bytes_9 (d_Bytes_put 19 35 (.getfield 9) 3 rfl) rfl ?_
      refine Ak_iconst 39 (d_Bytes_put 20 38 (.iconst 1) 1 rfl) rfl (rk rfl) ?_
      refine Ak_iadd 40 (d_Bytes_put 21 39 (.iadd) 1 rfl) rfl ?_
      refine Ak_putI 43 0 hO clX0 (by decide) rfl rfl rfl lkF_Bytes_9 (d_Bytes_put 22 40 (.putfield 9) 3 rfl) rfl (fun V4 hV4 => ?_)
      replace h := wV_some h V4 hV4
      cases h
      exact Ak_vret rfl (d_Bytes_put 23 43 (.return_) 1 rfl)
theorem t_Bytes_putFour_L3 {S : ASh} {x0 x1 : Int} (hO : isO S x0 0 = true) : ∀ (n : Nat) (V : ASt) (x2 : Int) (r : Int) (V' : ASt), b_Bytes_putFour_L3 S x0 x1 n V x2 = some (r, V') → AWk m_Bytes_putFour 3 0 0 0 0 3 [some (aR x0), some (aI x1), some (aI x2)] [] S V none S V' := by
  intro n
  induction n with
  | zero => intro V x2 r V' h; cases h
  | succ n ih =>
    intro V x2 r V' h
    replace ih : ∀ {V : ASt} {x2 : Int} {r : Int} {V' : ASt}, b_Bytes_putFour_L3 S x0 x1 n V x2 = some (r, V') → AWk m_Bytes_putFour 3 0 0 0 0 3 [some (aR x0), some (aI x1), some (aI x2)] [] S V none S V' := fun h => ih _ _ _ _ h
    rw [b_Bytes_putFour_L3] at h
    refine Ak_iload_n 4 2 (d_Bytes_putFour 2 3 (.iload_n 2) 1 rfl) rfl rfl rfl ?_
    refine Ak_if_lt 20 7 (d_Bytes_putFour 3 4 (.ifCond .lt 16) 3 rfl) rfl rfl (fun hc => ?_) (fun hc => ?_)
    · replace h := it_t hc h
      cases h
      exact Ak_vret rfl (d_Bytes_putFour 11 20 (.return_) 1 rfl)
    · replace h := it_f hc h
      refine Ak_aload_n 8 0 (d_Bytes_putFour 4 7 (.aload_n 0) 1 rfl) rfl rfl rfl ?_
      refine Ak_iload_n 9 1 (d_Bytes_putFour 5 8 (.iload_n 1) 1 rfl) rfl rfl rfl ?_
      refine Ak_iload_n 10 2 (d_Bytes_putFour 6 9 (.iload_n 2) 1 rfl) rfl rfl rfl ?_
      refine Ak_iushr 11 (d_Bytes_putFour 7 10 (.iushr) 1 rfl) rfl ?_
      obtain ⟨r1, V2, h3, h⟩ := bnd_some h
      refine Ak_cV0 14 2 (c_Bytes_put h3) rfl hO clX0 rfl mok_Bytes_put lkM_Bytes_25 (d_Bytes_putFour 8 11 (.invokevirtual 25) 3 rfl) rfl (by decide) (Nat.le_of_ble_eq_true rfl) ?_
      refine Ak_iinc 17 (d_Bytes_putFour 9 14 (.iinc 2 (-8)) 3 rfl) rfl rfl (by decide) ?_
      refine Ak_goto 3 (d_Bytes_putFour 10 17 (.goto (-14)) 3 rfl) rfl ?_
      refine Ak_keep [true, true, true] ?_
      exact ih h
theorem c_Bytes_putFour {S : ASh} {V : ASt} {x0 x1 : Int} {r : Int} {V' : ASt} (h : f_Bytes_putFour S V x0 x1 = some (r, V')) : ACt m_Bytes_putFour 3 0 0 [(aR x0), (aI x1)] S V none S V' := by
  unfold f_Bytes_putFour at h
  obtain ⟨hO, h⟩ := gd_some h
  refine ACt_of (plainFor_of_name rfl) rfl (Nat.le_of_ble_eq_true rfl) ?_
  show AWk m_Bytes_putFour 3 0 0 0 0 0 [some (aR x0), some (aI x1)] [] S V none S V'
  refine Ak_bipush 2 (d_Bytes_putFour 0 0 (.bipush 24) 2 rfl) rfl (bp_ok rfl) (rk rfl) ?_
  refine Ak_istore_n 3 2 (d_Bytes_putFour 1 2 (.istore_n 2) 1 rfl) rfl rfl (by decide) ?_
  refine Ak_keep [true, true, true] ?_
  exact t_Bytes_putFour_L3 hO FU _ _ _ _ h
theorem c_Bytes_at {S : ASh} {V : ASt} {x0 x1 : Int} {r : Int} {V' : ASt} (h : f_Bytes_at S V x0 x1 = some (r, V')) : ACt m_Bytes_at 2 0 0 [(aR x0), (aI x1)] S V (some (aI r)) S V' := by
  unfold f_Bytes_at at h
  obtain ⟨hO, h⟩ := gd_some h
  refine ACt_of (plainFor_of_name rfl) rfl (Nat.le_of_ble_eq_true rfl) ?_
  show AWk m_Bytes_at 2 0 0 0 0 0 [some (aR x0), some (aI x1)] [] S V (some (aI r)) S V'
  refine Ak_iload_n 1 1 (d_Bytes_at 0 0 (.iload_n 1) 1 rfl) rfl rfl rfl ?_
  refine Ak_if_lt 30 4 (d_Bytes_at 1 1 (.ifCond .lt 29) 3 rfl) rfl rfl (fun hc => ?_) (fun hc => ?_)
  · replace h := it_t hc h
    refine Ak_iconst 31 (d_Bytes_at 16 30 (.iconst (-1)) 1 rfl) rfl (rk rfl) ?_
    cases h
    exact Ak_iret rfl (d_Bytes_at 17 31 (.ireturn) 1 rfl)
  · replace h := it_f hc h
    refine Ak_iload_n 5 1 (d_Bytes_at 2 4 (.iload_n 1) 1 rfl) rfl rfl rfl ?_
    refine Ak_aload_n 6 0 (d_Bytes_at 3 5 (.aload_n 0) 1 rfl) rfl rfl rfl ?_
    refine Ak_getI 9 0 hO clX0 (by decide) (Or.inl rfl) lkF_Bytes_9 (d_Bytes_at 4 6 (.getfield 9) 3 rfl) rfl ?_
    refine Ak_icmp_ge 30 12 (d_Bytes_at 5 9 (.if_icmp .ge 21) 3 rfl) rfl rfl (fun hc => ?_) (fun hc => ?_)
    · replace h := it_t hc h
      refine Ak_iconst 31 (d_Bytes_at 16 30 (.iconst (-1)) 1 rfl) rfl (rk rfl) ?_
      cases h
      exact Ak_iret rfl (d_Bytes_at 17 31 (.ireturn) 1 rfl)
    · replace h := it_f hc h
      refine Ak_iload_n 13 1 (d_Bytes_at 6 12 (.iload_n 1) 1 rfl) rfl rfl rfl ?_
      refine Ak_aload_n 14 0 (d_Bytes_at 7 13 (.aload_n 0) 1 rfl) rfl rfl rfl ?_
      refine Ak_getF 17 1 hO clX0 (by decide) rfl lkF_Bytes_21 (d_Bytes_at 8 14 (.getfield 21) 3 rfl) rfl ?_
      obtain ⟨hg1, h⟩ := gd_some h
      refine Ak_alen (c := 0) 18 hg1 (by decide) (d_Bytes_at 9 17 (.arraylength) 1 rfl) rfl ?_
      refine Ak_icmp_ge 30 21 (d_Bytes_at 10 18 (.if_icmp .ge 12) 3 rfl) rfl rfl (fun hc => ?_) (fun hc => ?_)
      · replace h := it_t hc h
        refine Ak_iconst 31 (d_Bytes_at 16 30 (.iconst (-1)) 1 rfl) rfl (rk rfl) ?_
        cases h
        exact Ak_iret rfl (d_Bytes_at 17 31 (.ireturn) 1 rfl)
      · replace h := it_f hc h
        refine Ak_aload_n 22 0 (d_Bytes_at 11 21 (.aload_n 0) 1 rfl) rfl rfl rfl ?_
        refine Ak_getF 25 1 hO clX0 (by decide) rfl lkF_Bytes_21 (d_Bytes_at 12 22 (.getfield 21) 3 rfl) rfl ?_
        refine Ak_iload_n 26 1 (d_Bytes_at 13 25 (.iload_n 1) 1 rfl) rfl rfl rfl ?_
        obtain ⟨ha2, h⟩ := gd_some h
        refine Ak_iaload 27 ha2 (d_Bytes_at 14 26 (.iaload) 1 rfl) rfl ?_
        refine Ak_goto 31 (d_Bytes_at 15 27 (.goto 4) 3 rfl) rfl ?_
        cases h
        exact Ak_iret rfl (d_Bytes_at 17 31 (.ireturn) 1 rfl)
theorem t_Bytes_checkOfFirst_L5 {S : ASh} {x0 x1 : Int} (hO : isO S x0 0 = true) : ∀ (n : Nat) (V : ASt) (x2 x3 : Int) (r : Int) (V' : ASt), b_Bytes_checkOfFirst_L5 S x0 x1 n V x2 x3 = some (r, V') → AWk m_Bytes_checkOfFirst 2 0 0 0 0 5 [some (aR x0), some (aI x1), some (aI x2), some (aI x3)] [] S V (some (aI r)) S V' := by
  intro n
  induction n with
  | zero => intro V x2 x3 r V' h; cases h
  | succ n ih =>
    intro V x2 x3 r V' h
    replace ih : ∀ {V : ASt} {x2 x3 : Int} {r : Int} {V' : ASt}, b_Bytes_checkOfFirst_L5 S x0 x1 n V x2 x3 = some (r, V') → AWk m_Bytes_checkOfFirst 2 0 0 0 0 5 [some (aR x0), some (aI x1), some (aI x2), some (aI x3)] [] S V (some (aI r)) S V' := fun h => ih _ _ _ _ _ h
    rw [b_Bytes_checkOfFirst_L5] at h
    refine Ak_iload_n 6 3 (d_Bytes_checkOfFirst 4 5 (.iload_n 3) 1 rfl) rfl rfl rfl ?_
    refine Ak_iload_n 7 1 (d_Bytes_checkOfFirst 5 6 (.iload_n 1) 1 rfl) rfl rfl rfl ?_
    refine Ak_icmp_ge 41 10 (d_Bytes_checkOfFirst 6 7 (.if_icmp .ge 34) 3 rfl) rfl rfl (fun hc => ?_) (fun hc => ?_)
    · replace h := it_t hc h
      refine Ak_iload_n 42 2 (d_Bytes_checkOfFirst 25 41 (.iload_n 2) 1 rfl) rfl rfl rfl ?_
      cases h
      exact Ak_iret rfl (d_Bytes_checkOfFirst 26 42 (.ireturn) 1 rfl)
    · replace h := it_f hc h
      refine Ak_iload_n 11 3 (d_Bytes_checkOfFirst 7 10 (.iload_n 3) 1 rfl) rfl rfl rfl ?_
      refine Ak_aload_n 12 0 (d_Bytes_checkOfFirst 8 11 (.aload_n 0) 1 rfl) rfl rfl rfl ?_
      refine Ak_getF 15 1 hO clX0 (by decide) rfl lkF_Bytes_21 (d_Bytes_checkOfFirst 9 12 (.getfield 21) 3 rfl) rfl ?_
      obtain ⟨hg1, h⟩ := gd_some h
      refine Ak_alen (c := 0) 16 hg1 (by decide) (d_Bytes_checkOfFirst 10 15 (.arraylength) 1 rfl) rfl ?_
      refine Ak_icmp_ge 41 19 (d_Bytes_checkOfFirst 11 16 (.if_icmp .ge 25) 3 rfl) rfl rfl (fun hc => ?_) (fun hc => ?_)
      · replace h := it_t hc h
        refine Ak_iload_n 42 2 (d_Bytes_checkOfFirst 25 41 (.iload_n 2) 1 rfl) rfl rfl rfl ?_
        cases h
        exact Ak_iret rfl (d_Bytes_checkOfFirst 26 42 (.ireturn) 1 rfl)
      · replace h := it_f hc h
        refine Ak_bipush 21 (d_Bytes_checkOfFirst 12 19 (.bipush 7) 2 rfl) rfl (bp_ok rfl) (rk rfl) ?_
        refine Ak_iload_n 22 2 (d_Bytes_checkOfFirst 13 21 (.iload_n 2) 1 rfl) rfl rfl rfl ?_
        refine Ak_imul 23 (d_Bytes_checkOfFirst 14 22 (.imul) 1 rfl) rfl ?_
        refine Ak_aload_n 24 0 (d_Bytes_checkOfFirst 15 23 (.aload_n 0) 1 rfl) rfl rfl rfl ?_
        refine Ak_getF 27 1 hO clX0 (by decide) rfl lkF_Bytes_21 (d_Bytes_checkOfFirst 16 24 (.getfield 21) 3 rfl) rfl ?_
        refine Ak_iload_n 28 3 (d_Bytes_checkOfFirst 17 27 (.iload_n 3) 1 rfl) rfl rfl rfl ?_
        obtain ⟨ha2, h⟩ := gd_some h
        refine Ak_iaload 29 ha2 (d_Bytes_checkOfFirst 18 28 (.iaload) 1 rfl) rfl ?_
        refine Ak_iadd 30 (d_Bytes_checkOfFirst 19 29 (.iadd) 1 rfl) rfl ?_
        refine Ak_sipush 33 (d_Bytes_checkOfFirst 20 30 (.sipush 223) 3 rfl) rfl (sp_ok rfl) (rk rfl) ?_
        refine Ak_irem 34 (d_Bytes_checkOfFirst 21 33 (.irem) 1 rfl) rfl (by decide) ?_
        refine Ak_istore_n 35 2 (d_Bytes_checkOfFirst 22 34 (.istore_n 2) 1 rfl) rfl rfl (by decide) ?_
        refine Ak_iinc 38 (d_Bytes_checkOfFirst 23 35 (.iinc 3 1) 3 rfl) rfl rfl (by decide) ?_
        refine Ak_goto 5 (d_Bytes_checkOfFirst 24 38 (.goto (-33)) 3 rfl) rfl ?_
        refine Ak_keep [true, true, true, true] ?_
        exact ih h
theorem c_Bytes_checkOfFirst {S : ASh} {V : ASt} {x0 x1 : Int} {r : Int} {V' : ASt} (h : f_Bytes_checkOfFirst S V x0 x1 = some (r, V')) : ACt m_Bytes_checkOfFirst 2 0 0 [(aR x0), (aI x1)] S V (some (aI r)) S V' := by
  unfold f_Bytes_checkOfFirst at h
  obtain ⟨hO, h⟩ := gd_some h
  refine ACt_of (plainFor_of_name rfl) rfl (Nat.le_of_ble_eq_true rfl) ?_
  show AWk m_Bytes_checkOfFirst 2 0 0 0 0 0 [some (aR x0), some (aI x1)] [] S V (some (aI r)) S V'
  refine Ak_bipush 2 (d_Bytes_checkOfFirst 0 0 (.bipush 37) 2 rfl) rfl (bp_ok rfl) (rk rfl) ?_
  refine Ak_istore_n 3 2 (d_Bytes_checkOfFirst 1 2 (.istore_n 2) 1 rfl) rfl rfl (by decide) ?_
  refine Ak_iconst 4 (d_Bytes_checkOfFirst 2 3 (.iconst 0) 1 rfl) rfl (rk rfl) ?_
  refine Ak_istore_n 5 3 (d_Bytes_checkOfFirst 3 4 (.istore_n 3) 1 rfl) rfl rfl (by decide) ?_
  refine Ak_keep [true, true, true, true] ?_
  exact t_Bytes_checkOfFirst_L5 hO FU _ _ _ _ _ h
theorem c_Tests_clear {S : ASh} {V : ASt} {x0 : Int} {r : Int} {V' : ASt} (h : f_Tests_clear S V x0 = some (r, V')) : ACt m_Tests_clear 2 0 0 [(aR x0)] S V none S V' := by
  unfold f_Tests_clear at h
  obtain ⟨hO, h⟩ := gd_some h
  refine ACt_of (plainFor_of_name rfl) rfl (Nat.le_of_ble_eq_true rfl) ?_
  show AWk m_Tests_clear 2 0 0 0 0 0 [some (aR x0)] [] S V none S V'
  refine Ak_aload_n 1 0 (d_Tests_clear 0 0 (.aload_n 0) 1 rfl) rfl rfl rfl ?_
  refine Ak_iconst 2 (d_Tests_clear 1 1 (.iconst 0) 1 rfl) rfl (rk rfl) ?_
  refine Ak_putI 5 2 hO clX8 (by decide) rfl rfl rfl lkF_Tests_18 (d_Tests_clear 2 2 (.putfield 18) 3 rfl) rfl (fun V1 hV1 => ?_)
  replace h := wV_some h V1 hV1
  refine Ak_aload_n 6 0 (d_Tests_clear 3 5 (.aload_n 0) 1 rfl) rfl rfl rfl ?_
  refine Ak_iconst 7 (d_Tests_clear 4 6 (.iconst 0) 1 rfl) rfl (rk rfl) ?_
  refine Ak_putI 10 3 hO clX8 (by decide) rfl rfl rfl lkF_Tests_22 (d_Tests_clear 5 7 (.putfield 22) 3 rfl) rfl (fun V2 hV2 => ?_)
  replace h := wV_some h V2 hV2
  cases h
  exact Ak_vret rfl (d_Tests_clear 6 10 (.return_) 1 rfl)
theorem c_Game_clear {S : ASh} {V : ASt} {x0 : Int} {r : Int} {V' : ASt} (h : f_Game_clear S V x0 = some (r, V')) : ACt m_Game_clear 3 0 0 [(aR x0)] S V none S V' := by
  unfold f_Game_clear at h
  obtain ⟨hO, h⟩ := gd_some h
  refine ACt_of (plainFor_of_name rfl) rfl (Nat.le_of_ble_eq_true rfl) ?_
  show AWk m_Game_clear 3 0 0 0 0 0 [some (aR x0)] [] S V none S V'
  refine Ak_aload_n 1 0 (d_Game_clear 0 0 (.aload_n 0) 1 rfl) rfl rfl rfl ?_
  refine Ak_iconst 2 (d_Game_clear 1 1 (.iconst 0) 1 rfl) rfl (rk rfl) ?_
  refine Ak_putI 5 0 hO clX1 (by decide) rfl rfl rfl lkF_Game_9 (d_Game_clear 2 2 (.putfield 9) 3 rfl) rfl (fun V1 hV1 => ?_)
  replace h := wV_some h V1 hV1
  refine Ak_aload_n 6 0 (d_Game_clear 3 5 (.aload_n 0) 1 rfl) rfl rfl rfl ?_
  refine Ak_iconst 7 (d_Game_clear 4 6 (.iconst 0) 1 rfl) rfl (rk rfl) ?_
  refine Ak_putI 10 1 hO clX1 (by decide) rfl rfl rfl lkF_Game_15 (d_Game_clear 5 7 (.putfield 15) 3 rfl) rfl (fun V2 hV2 => ?_)
  replace h := wV_some h V2 hV2
  refine Ak_aload_n 11 0 (d_Game_clear 6 10 (.aload_n 0) 1 rfl) rfl rfl rfl ?_
  refine Ak_iconst 12 (d_Game_clear 7 11 (.iconst 0) 1 rfl) rfl (rk rfl) ?_
  refine Ak_putI 15 2 hO clX1 (by decide) rfl rfl rfl lkF_Game_18 (d_Game_clear 8 12 (.putfield 18) 3 rfl) rfl (fun V3 hV3 => ?_)
  replace h := wV_some h V3 hV3
  refine Ak_aload_n 16 0 (d_Game_clear 9 15 (.aload_n 0) 1 rfl) rfl rfl rfl ?_
  refine Ak_iconst 17 (d_Game_clear 10 16 (.iconst 0) 1 rfl) rfl (rk rfl) ?_
  refine Ak_putI 20 3 hO clX1 (by decide) rfl rfl rfl lkF_Game_21 (d_Game_clear 11 17 (.putfield 21) 3 rfl) rfl (fun V4 hV4 => ?_)
  replace h := wV_some h V4 hV4
  refine Ak_aload_n 21 0 (d_Game_clear 12 20 (.aload_n 0) 1 rfl) rfl rfl rfl ?_
  refine Ak_iconst 22 (d_Game_clear 13 21 (.iconst 0) 1 rfl) rfl (rk rfl) ?_
  refine Ak_putI 25 4 hO clX1 (by decide) rfl rfl rfl lkF_Game_24 (d_Game_clear 14 22 (.putfield 24) 3 rfl) rfl (fun V5 hV5 => ?_)
  replace h := wV_some h V5 hV5
  refine Ak_aload_n 26 0 (d_Game_clear 15 25 (.aload_n 0) 1 rfl) rfl rfl rfl ?_
  refine Ak_getF 29 5 hO clX1 (by decide) rfl lkF_Game_30 (d_Game_clear 16 26 (.getfield 30) 3 rfl) rfl ?_
  obtain ⟨hg9, h⟩ := gd_some h
  obtain ⟨r6, V7, h8, h⟩ := bnd_some h
  refine Ak_cV0 32 2 (c_Tests_clear h8) rfl hg9 clX8 rfl mok_Tests_clear lkM_Game_69 (d_Game_clear 17 29 (.invokevirtual 69) 3 rfl) rfl (by decide) (Nat.le_of_ble_eq_true rfl) ?_
  cases h
  exact Ak_vret rfl (d_Game_clear 18 32 (.return_) 1 rfl)
theorem c_Game_addPiece {S : ASh} {V : ASt} {x0 x1 x2 x3 : Int} {r : Int} {V' : ASt} (h : f_Game_addPiece S V x0 x1 x2 x3 = some (r, V')) : ACt m_Game_addPiece 2 0 0 [(aR x0), (aI x1), (aI x2), (aI x3)] S V none S V' := by
  unfold f_Game_addPiece at h
  obtain ⟨hO, h⟩ := gd_some h
  refine ACt_of (plainFor_of_name rfl) rfl (Nat.le_of_ble_eq_true rfl) ?_
  show AWk m_Game_addPiece 2 0 0 0 0 0 [some (aR x0), some (aI x1), some (aI x2), some (aI x3)] [] S V none S V'
  refine Ak_aload_n 1 0 (d_Game_addPiece 0 0 (.aload_n 0) 1 rfl) rfl rfl rfl ?_
  refine Ak_getI 4 1 hO clX1 (by decide) (Or.inl rfl) lkF_Game_15 (d_Game_addPiece 1 1 (.getfield 15) 3 rfl) rfl ?_
  refine Ak_iconst 5 (d_Game_addPiece 2 4 (.iconst 2) 1 rfl) rfl (rk rfl) ?_
  refine Ak_icmp_ge 48 8 (d_Game_addPiece 3 5 (.if_icmp .ge 43) 3 rfl) rfl rfl (fun hc => ?_) (fun hc => ?_)
  · replace h := it_t hc h
    cases h
    exact Ak_vret rfl (d_Game_addPiece 28 48 (.return_) 1 rfl)
  · replace h := it_f hc h
    refine Ak_aload_n 9 0 (d_Game_addPiece 4 8 (.aload_n 0) 1 rfl) rfl rfl rfl ?_
    refine Ak_getF 12 6 hO clX1 (by decide) rfl lkF_Game_34 (d_Game_addPiece 5 9 (.getfield 34) 3 rfl) rfl ?_
    refine Ak_aload_n 13 0 (d_Game_addPiece 6 12 (.aload_n 0) 1 rfl) rfl rfl rfl ?_
    refine Ak_getI 16 1 hO clX1 (by decide) (Or.inl rfl) lkF_Game_15 (d_Game_addPiece 7 13 (.getfield 15) 3 rfl) rfl ?_
    refine Ak_iload_n 17 1 (d_Game_addPiece 8 16 (.iload_n 1) 1 rfl) rfl rfl rfl ?_
    obtain ⟨ha1, h⟩ := gd_some h
    refine Ak_iastore 18 ha1 (d_Game_addPiece 9 17 (.iastore) 1 rfl) rfl (fun V2 hV2 => ?_)
    replace h := wV_some h V2 hV2
    refine Ak_aload_n 19 0 (d_Game_addPiece 10 18 (.aload_n 0) 1 rfl) rfl rfl rfl ?_
    refine Ak_getF 22 7 hO clX1 (by decide) rfl lkF_Game_38 (d_Game_addPiece 11 19 (.getfield 38) 3 rfl) rfl ?_
    refine Ak_aload_n 23 0 (d_Game_addPiece 12 22 (.aload_n 0) 1 rfl) rfl rfl rfl ?_
    refine Ak_getI 26 1 hO clX1 (by decide) (Or.inl rfl) lkF_Game_15 (d_Game_addPiece 13 23 (.getfield 15) 3 rfl) rfl ?_
    refine Ak_iload_n 27 2 (d_Game_addPiece 14 26 (.iload_n 2) 1 rfl) rfl rfl rfl ?_
    obtain ⟨ha3, h⟩ := gd_some h
    refine Ak_iastore 28 ha3 (d_Game_addPiece 15 27 (.iastore) 1 rfl) rfl (fun V4 hV4 => ?_)
    replace h := wV_some h V4 hV4
    refine Ak_aload_n 29 0 (d_Game_addPiece 16 28 (.aload_n 0) 1 rfl) rfl rfl rfl ?_
    refine Ak_getF 32 8 hO clX1 (by decide) rfl lkF_Game_41 (d_Game_addPiece 17 29 (.getfield 41) 3 rfl) rfl ?_
    refine Ak_aload_n 33 0 (d_Game_addPiece 18 32 (.aload_n 0) 1 rfl) rfl rfl rfl ?_
    refine Ak_getI 36 1 hO clX1 (by decide) (Or.inl rfl) lkF_Game_15 (d_Game_addPiece 19 33 (.getfield 15) 3 rfl) rfl ?_
    refine Ak_iload_n 37 3 (d_Game_addPiece 20 36 (.iload_n 3) 1 rfl) rfl rfl rfl ?_
    obtain ⟨ha5, h⟩ := gd_some h
    refine Ak_iastore 38 ha5 (d_Game_addPiece 21 37 (.iastore) 1 rfl) rfl (fun V6 hV6 => ?_)
    replace h := wV_some h V6 hV6
    refine Ak_aload_n 39 0 (d_Game_addPiece 22 38 (.aload_n 0) 1 rfl) rfl rfl rfl ?_
    refine Ak_dup 40 (d_Game_addPiece 23 39 (.dup) 1 rfl) rfl rfl ?_
    refine Ak_getI 43 1 hO clX1 (by decide) (Or.inl rfl) lkF_Game_15 (d_Game_addPiece 24 40 (.getfield 15) 3 rfl) rfl ?_
    refine Ak_iconst 44 (d_Game_addPiece 25 43 (.iconst 1) 1 rfl) rfl (rk rfl) ?_
    refine Ak_iadd 45 (d_Game_addPiece 26 44 (.iadd) 1 rfl) rfl ?_
    refine Ak_putI 48 1 hO clX1 (by decide) rfl rfl rfl lkF_Game_15 (d_Game_addPiece 27 45 (.putfield 15) 3 rfl) rfl (fun V7 hV7 => ?_)
    replace h := wV_some h V7 hV7
    cases h
    exact Ak_vret rfl (d_Game_addPiece 28 48 (.return_) 1 rfl)
theorem c_Game_addRule {S : ASh} {V : ASt} {x0 x1 x2 : Int} {r : Int} {V' : ASt} (h : f_Game_addRule S V x0 x1 x2 = some (r, V')) : ACt m_Game_addRule 2 0 0 [(aR x0), (aI x1), (aI x2)] S V none S V' := by
  unfold f_Game_addRule at h
  obtain ⟨hO, h⟩ := gd_some h
  refine ACt_of (plainFor_of_name rfl) rfl (Nat.le_of_ble_eq_true rfl) ?_
  show AWk m_Game_addRule 2 0 0 0 0 0 [some (aR x0), some (aI x1), some (aI x2)] [] S V none S V'
  refine Ak_aload_n 1 0 (d_Game_addRule 0 0 (.aload_n 0) 1 rfl) rfl rfl rfl ?_
  refine Ak_getI 4 2 hO clX1 (by decide) (Or.inl rfl) lkF_Game_18 (d_Game_addRule 1 1 (.getfield 18) 3 rfl) rfl ?_
  refine Ak_bipush 6 (d_Game_addRule 2 4 (.bipush 12) 2 rfl) rfl (bp_ok rfl) (rk rfl) ?_
  refine Ak_icmp_ge 69 9 (d_Game_addRule 3 6 (.if_icmp .ge 63) 3 rfl) rfl rfl (fun hc => ?_) (fun hc => ?_)
  · replace h := it_t hc h
    cases h
    exact Ak_vret rfl (d_Game_addRule 40 69 (.return_) 1 rfl)
  · replace h := it_f hc h
    refine Ak_aload_n 10 0 (d_Game_addRule 4 9 (.aload_n 0) 1 rfl) rfl rfl rfl ?_
    refine Ak_getF 13 9 hO clX1 (by decide) rfl lkF_Game_44 (d_Game_addRule 5 10 (.getfield 44) 3 rfl) rfl ?_
    refine Ak_aload_n 14 0 (d_Game_addRule 6 13 (.aload_n 0) 1 rfl) rfl rfl rfl ?_
    refine Ak_getI 17 2 hO clX1 (by decide) (Or.inl rfl) lkF_Game_18 (d_Game_addRule 7 14 (.getfield 18) 3 rfl) rfl ?_
    refine Ak_iload_n 18 1 (d_Game_addRule 8 17 (.iload_n 1) 1 rfl) rfl rfl rfl ?_
    obtain ⟨ha1, h⟩ := gd_some h
    refine Ak_iastore 19 ha1 (d_Game_addRule 9 18 (.iastore) 1 rfl) rfl (fun V2 hV2 => ?_)
    replace h := wV_some h V2 hV2
    refine Ak_aload_n 20 0 (d_Game_addRule 10 19 (.aload_n 0) 1 rfl) rfl rfl rfl ?_
    refine Ak_getF 23 13 hO clX1 (by decide) rfl lkF_Game_56 (d_Game_addRule 11 20 (.getfield 56) 3 rfl) rfl ?_
    refine Ak_aload_n 24 0 (d_Game_addRule 12 23 (.aload_n 0) 1 rfl) rfl rfl rfl ?_
    refine Ak_getI 27 2 hO clX1 (by decide) (Or.inl rfl) lkF_Game_18 (d_Game_addRule 13 24 (.getfield 18) 3 rfl) rfl ?_
    refine Ak_iload_n 28 2 (d_Game_addRule 14 27 (.iload_n 2) 1 rfl) rfl rfl rfl ?_
    obtain ⟨ha3, h⟩ := gd_some h
    obtain ⟨hb4, h⟩ := gd_some h
    refine Ak_bastore 29 ha3 (dec_t hb4) (d_Game_addRule 15 28 (.bastore) 1 rfl) rfl (fun V5 hV5 => ?_)
    replace h := wV_some h V5 hV5
    refine Ak_aload_n 30 0 (d_Game_addRule 16 29 (.aload_n 0) 1 rfl) rfl rfl rfl ?_
    refine Ak_getF 33 10 hO clX1 (by decide) rfl lkF_Game_47 (d_Game_addRule 17 30 (.getfield 47) 3 rfl) rfl ?_
    refine Ak_aload_n 34 0 (d_Game_addRule 18 33 (.aload_n 0) 1 rfl) rfl rfl rfl ?_
    refine Ak_getI 37 2 hO clX1 (by decide) (Or.inl rfl) lkF_Game_18 (d_Game_addRule 19 34 (.getfield 18) 3 rfl) rfl ?_
    refine Ak_iconst 38 (d_Game_addRule 20 37 (.iconst (-1)) 1 rfl) rfl (rk rfl) ?_
    obtain ⟨ha6, h⟩ := gd_some h
    refine Ak_iastore 39 ha6 (d_Game_addRule 21 38 (.iastore) 1 rfl) rfl (fun V7 hV7 => ?_)
    replace h := wV_some h V7 hV7
    refine Ak_aload_n 40 0 (d_Game_addRule 22 39 (.aload_n 0) 1 rfl) rfl rfl rfl ?_
    refine Ak_getF 43 11 hO clX1 (by decide) rfl lkF_Game_50 (d_Game_addRule 23 40 (.getfield 50) 3 rfl) rfl ?_
    refine Ak_aload_n 44 0 (d_Game_addRule 24 43 (.aload_n 0) 1 rfl) rfl rfl rfl ?_
    refine Ak_getI 47 2 hO clX1 (by decide) (Or.inl rfl) lkF_Game_18 (d_Game_addRule 25 44 (.getfield 18) 3 rfl) rfl ?_
    refine Ak_iconst 48 (d_Game_addRule 26 47 (.iconst (-1)) 1 rfl) rfl (rk rfl) ?_
    obtain ⟨ha8, h⟩ := gd_some h
    refine Ak_iastore 49 ha8 (d_Game_addRule 27 48 (.iastore) 1 rfl) rfl (fun V9 hV9 => ?_)
    replace h := wV_some h V9 hV9
    refine Ak_aload_n 50 0 (d_Game_addRule 28 49 (.aload_n 0) 1 rfl) rfl rfl rfl ?_
    refine Ak_getF 53 12 hO clX1 (by decide) rfl lkF_Game_53 (d_Game_addRule 29 50 (.getfield 53) 3 rfl) rfl ?_
    refine Ak_aload_n 54 0 (d_Game_addRule 30 53 (.aload_n 0) 1 rfl) rfl rfl rfl ?_
    refine Ak_getI 57 2 hO clX1 (by decide) (Or.inl rfl) lkF_Game_18 (d_Game_addRule 31 54 (.getfield 18) 3 rfl) rfl ?_
    refine Ak_iconst 58 (d_Game_addRule 32 57 (.iconst 0) 1 rfl) rfl (rk rfl) ?_
    obtain ⟨ha10, h⟩ := gd_some h
    refine Ak_iastore 59 ha10 (d_Game_addRule 33 58 (.iastore) 1 rfl) rfl (fun V11 hV11 => ?_)
    replace h := wV_some h V11 hV11
    refine Ak_aload_n 60 0 (d_Game_addRule 34 59 (.aload_n 0) 1 rfl) rfl rfl rfl ?_
    refine Ak_dup 61 (d_Game_addRule 35 60 (.dup) 1 rfl) rfl rfl ?_
    refine Ak_getI 64 2 hO clX1 (by decide) (Or.inl rfl) lkF_Game_18 (d_Game_addRule 36 61 (.getfield 18) 3 rfl) rfl ?_
    refine Ak_iconst 65 (d_Game_addRule 37 64 (.iconst 1) 1 rfl) rfl (rk rfl) ?_
    refine Ak_iadd 66 (d_Game_addRule 38 65 (.iadd) 1 rfl) rfl ?_
    refine Ak_putI 69 2 hO clX1 (by decide) rfl rfl rfl lkF_Game_18 (d_Game_addRule 39 66 (.putfield 18) 3 rfl) rfl (fun V12 hV12 => ?_)
    replace h := wV_some h V12 hV12
    cases h
    exact Ak_vret rfl (d_Game_addRule 40 69 (.return_) 1 rfl)
theorem c_Game_setMoveOfLatest {S : ASh} {V : ASt} {x0 x1 x2 x3 : Int} {r : Int} {V' : ASt} (h : f_Game_setMoveOfLatest S V x0 x1 x2 x3 = some (r, V')) : ACt m_Game_setMoveOfLatest 2 0 0 [(aR x0), (aI x1), (aI x2), (aI x3)] S V none S V' := by
  unfold f_Game_setMoveOfLatest at h
  obtain ⟨hO, h⟩ := gd_some h
  refine ACt_of (plainFor_of_name rfl) rfl (Nat.le_of_ble_eq_true rfl) ?_
  show AWk m_Game_setMoveOfLatest 2 0 0 0 0 0 [some (aR x0), some (aI x1), some (aI x2), some (aI x3)] [] S V none S V'
  refine Ak_aload_n 1 0 (d_Game_setMoveOfLatest 0 0 (.aload_n 0) 1 rfl) rfl rfl rfl ?_
  refine Ak_getI 4 2 hO clX1 (by decide) (Or.inl rfl) lkF_Game_18 (d_Game_setMoveOfLatest 1 1 (.getfield 18) 3 rfl) rfl ?_
  refine Ak_if_le 43 7 (d_Game_setMoveOfLatest 2 4 (.ifCond .le 39) 3 rfl) rfl rfl (fun hc => ?_) (fun hc => ?_)
  · replace h := it_t hc h
    cases h
    exact Ak_vret rfl (d_Game_setMoveOfLatest 27 43 (.return_) 1 rfl)
  · replace h := it_f hc h
    refine Ak_aload_n 8 0 (d_Game_setMoveOfLatest 3 7 (.aload_n 0) 1 rfl) rfl rfl rfl ?_
    refine Ak_getF 11 10 hO clX1 (by decide) rfl lkF_Game_47 (d_Game_setMoveOfLatest 4 8 (.getfield 47) 3 rfl) rfl ?_
    refine Ak_aload_n 12 0 (d_Game_setMoveOfLatest 5 11 (.aload_n 0) 1 rfl) rfl rfl rfl ?_
    refine Ak_getI 15 2 hO clX1 (by decide) (Or.inl rfl) lkF_Game_18 (d_Game_setMoveOfLatest 6 12 (.getfield 18) 3 rfl) rfl ?_
    refine Ak_iconst 16 (d_Game_setMoveOfLatest 7 15 (.iconst 1) 1 rfl) rfl (rk rfl) ?_
    refine Ak_isub 17 (d_Game_setMoveOfLatest 8 16 (.isub) 1 rfl) rfl ?_
    refine Ak_iload_n 18 1 (d_Game_setMoveOfLatest 9 17 (.iload_n 1) 1 rfl) rfl rfl rfl ?_
    obtain ⟨ha1, h⟩ := gd_some h
    refine Ak_iastore 19 ha1 (d_Game_setMoveOfLatest 10 18 (.iastore) 1 rfl) rfl (fun V2 hV2 => ?_)
    replace h := wV_some h V2 hV2
    refine Ak_aload_n 20 0 (d_Game_setMoveOfLatest 11 19 (.aload_n 0) 1 rfl) rfl rfl rfl ?_
    refine Ak_getF 23 11 hO clX1 (by decide) rfl lkF_Game_50 (d_Game_setMoveOfLatest 12 20 (.getfield 50) 3 rfl) rfl ?_
    refine Ak_aload_n 24 0 (d_Game_setMoveOfLatest 13 23 (.aload_n 0) 1 rfl) rfl rfl rfl ?_
    refine Ak_getI 27 2 hO clX1 (by decide) (Or.inl rfl) lkF_Game_18 (d_Game_setMoveOfLatest 14 24 (.getfield 18) 3 rfl) rfl ?_
    refine Ak_iconst 28 (d_Game_setMoveOfLatest 15 27 (.iconst 1) 1 rfl) rfl (rk rfl) ?_
    refine Ak_isub 29 (d_Game_setMoveOfLatest 16 28 (.isub) 1 rfl) rfl ?_
    refine Ak_iload_n 30 2 (d_Game_setMoveOfLatest 17 29 (.iload_n 2) 1 rfl) rfl rfl rfl ?_
    obtain ⟨ha3, h⟩ := gd_some h
    refine Ak_iastore 31 ha3 (d_Game_setMoveOfLatest 18 30 (.iastore) 1 rfl) rfl (fun V4 hV4 => ?_)
    replace h := wV_some h V4 hV4
    refine Ak_aload_n 32 0 (d_Game_setMoveOfLatest 19 31 (.aload_n 0) 1 rfl) rfl rfl rfl ?_
    refine Ak_getF 35 12 hO clX1 (by decide) rfl lkF_Game_53 (d_Game_setMoveOfLatest 20 32 (.getfield 53) 3 rfl) rfl ?_
    refine Ak_aload_n 36 0 (d_Game_setMoveOfLatest 21 35 (.aload_n 0) 1 rfl) rfl rfl rfl ?_
    refine Ak_getI 39 2 hO clX1 (by decide) (Or.inl rfl) lkF_Game_18 (d_Game_setMoveOfLatest 22 36 (.getfield 18) 3 rfl) rfl ?_
    refine Ak_iconst 40 (d_Game_setMoveOfLatest 23 39 (.iconst 1) 1 rfl) rfl (rk rfl) ?_
    refine Ak_isub 41 (d_Game_setMoveOfLatest 24 40 (.isub) 1 rfl) rfl ?_
    refine Ak_iload_n 42 3 (d_Game_setMoveOfLatest 25 41 (.iload_n 3) 1 rfl) rfl rfl rfl ?_
    obtain ⟨ha5, h⟩ := gd_some h
    refine Ak_iastore 43 ha5 (d_Game_setMoveOfLatest 26 42 (.iastore) 1 rfl) rfl (fun V6 hV6 => ?_)
    replace h := wV_some h V6 hV6
    cases h
    exact Ak_vret rfl (d_Game_setMoveOfLatest 27 43 (.return_) 1 rfl)
theorem t_Arrays_fill_L5 {S : ASh} {x0 x1 x3 : Int} : ∀ (n : Nat) (V : ASt) (x2 : Int) (r : Int) (V' : ASt), b_Arrays_fill_L5 S x0 x1 x3 n V x2 = some (r, V') → AWk m_Arrays_fill 2 0 0 0 0 5 [some (aR x0), some (aI x1), some (aI x2), some (aI x3)] [] S V none S V' := by
  intro n
  induction n with
  | zero => intro V x2 r V' h; cases h
  | succ n ih =>
    intro V x2 r V' h
    replace ih : ∀ {V : ASt} {x2 : Int} {r : Int} {V' : ASt}, b_Arrays_fill_L5 S x0 x1 x3 n V x2 = some (r, V') → AWk m_Arrays_fill 2 0 0 0 0 5 [some (aR x0), some (aI x1), some (aI x2), some (aI x3)] [] S V none S V' := fun h => ih _ _ _ _ h
    rw [b_Arrays_fill_L5] at h
    refine Ak_iload_n 6 2 (d_Arrays_fill 5 5 (.iload_n 2) 1 rfl) rfl rfl rfl ?_
    refine Ak_iload_n 7 3 (d_Arrays_fill 6 6 (.iload_n 3) 1 rfl) rfl rfl rfl ?_
    refine Ak_icmp_ge 20 10 (d_Arrays_fill 7 7 (.if_icmp .ge 13) 3 rfl) rfl rfl (fun hc => ?_) (fun hc => ?_)
    · replace h := it_t hc h
      cases h
      exact Ak_vret rfl (d_Arrays_fill 14 20 (.return_) 1 rfl)
    · replace h := it_f hc h
      refine Ak_aload_n 11 0 (d_Arrays_fill 8 10 (.aload_n 0) 1 rfl) rfl rfl rfl ?_
      refine Ak_iload_n 12 2 (d_Arrays_fill 9 11 (.iload_n 2) 1 rfl) rfl rfl rfl ?_
      refine Ak_iload_n 13 1 (d_Arrays_fill 10 12 (.iload_n 1) 1 rfl) rfl rfl rfl ?_
      obtain ⟨ha1, h⟩ := gd_some h
      refine Ak_iastore 14 ha1 (d_Arrays_fill 11 13 (.iastore) 1 rfl) rfl (fun V2 hV2 => ?_)
      replace h := wV_some h V2 hV2
      refine Ak_iinc 17 (d_Arrays_fill 12 14 (.iinc 2 1) 3 rfl) rfl rfl (by decide) ?_
      refine Ak_goto 5 (d_Arrays_fill 13 17 (.goto (-12)) 3 rfl) rfl ?_
      refine Ak_keep [true, true, true, true] ?_
      exact ih h
theorem c_Arrays_fill {S : ASh} {V : ASt} {x0 x1 : Int} {r : Int} {V' : ASt} (h : f_Arrays_fill S V x0 x1 = some (r, V')) : ACt m_Arrays_fill 2 0 0 [(aR x0), (aI x1)] S V none S V' := by
  unfold f_Arrays_fill at h
  refine ACt_of (by decide +kernel) rfl (Nat.le_of_ble_eq_true rfl) ?_
  show AWk m_Arrays_fill 2 0 0 0 0 0 [some (aR x0), some (aI x1)] [] S V none S V'
  refine Ak_iconst 1 (d_Arrays_fill 0 0 (.iconst 0) 1 rfl) rfl (rk rfl) ?_
  refine Ak_istore_n 2 2 (d_Arrays_fill 1 1 (.istore_n 2) 1 rfl) rfl rfl (by decide) ?_
  refine Ak_aload_n 3 0 (d_Arrays_fill 2 2 (.aload_n 0) 1 rfl) rfl rfl rfl ?_
  obtain ⟨hg3, h⟩ := gd_some h
  refine Ak_alen (c := 0) 4 hg3 (by decide) (d_Arrays_fill 3 3 (.arraylength) 1 rfl) rfl ?_
  refine Ak_istore_n 5 3 (d_Arrays_fill 4 4 (.istore_n 3) 1 rfl) rfl rfl (by decide) ?_
  refine Ak_keep [true, true, true, true] ?_
  exact t_Arrays_fill_L5  FU _ _ _ _ h
theorem t_Game_numberPositions_L85 {S : ASh} {K68 : ASt → Int → Option (Int × ASt)} {K76 : ASt → Int → Option (Int × ASt)} {x0 x1 x2 x3 x4 : Int} (hO : isO S x0 1 = true) (hK68 : ∀ {V : ASt} {y3 : Int} {r : Int} {V' : ASt}, K68 V y3 = some (r, V') → AWk m_Game_numberPositions 3 0 0 0 0 68 [some (aR x0), some (aI x1), some (aI x2), some (aI y3)] [] S V none S V') (hK76 : ∀ {V : ASt} {y4 : Int} {r : Int} {V' : ASt}, K76 V y4 = some (r, V') → AWk m_Game_numberPositions 3 0 0 0 0 76 [some (aR x0), some (aI x1), some (aI x2), some (aI x3), some (aI y4)] [] S V none S V') : ∀ (n : Nat) (V : ASt) (x5 : Int) (r : Int) (V' : ASt), b_Game_numberPositions_L85 S K68 K76 x0 x1 x2 x3 x4 n V x5 = some (r, V') → AWk m_Game_numberPositions 3 0 0 0 0 85 [some (aR x0), some (aI x1), some (aI x2), some (aI x3), some (aI x4), some (aI x5)] [] S V none S V' := by
  intro n
  induction n with
  | zero => intro V x5 r V' h; cases h
  | succ n ih =>
    intro V x5 r V' h
    replace ih : ∀ {V : ASt} {x5 : Int} {r : Int} {V' : ASt}, b_Game_numberPositions_L85 S K68 K76 x0 x1 x2 x3 x4 n V x5 = some (r, V') → AWk m_Game_numberPositions 3 0 0 0 0 85 [some (aR x0), some (aI x1), some (aI x2), some (aI x3), some (aI x4), some (aI x5)] [] S V none S V' := fun h => ih _ _ _ _ h
    rw [b_Game_numberPositions_L85] at h
    refine Ak_iload 87 (d_Game_numberPositions 52 85 (.iload 5) 2 rfl) rfl rfl ?_
    refine Ak_iconst 88 (d_Game_numberPositions 53 87 (.iconst 2) 1 rfl) rfl (rk rfl) ?_
    refine Ak_icmp_ge 144 91 (d_Game_numberPositions 54 88 (.if_icmp .ge 56) 3 rfl) rfl rfl (fun hc => ?_) (fun hc => ?_)
    · replace h := it_t hc h
      refine Ak_iinc 147 (d_Game_numberPositions 85 144 (.iinc 4 1) 3 rfl) rfl rfl (by decide) ?_
      refine Ak_goto 76 (d_Game_numberPositions 86 147 (.goto (-71)) 3 rfl) rfl ?_
      refine Ak_keep [true, true, true, true, true] ?_
      exact hK76 h
    · replace h := it_f hc h
      refine Ak_aload_n 92 0 (d_Game_numberPositions 55 91 (.aload_n 0) 1 rfl) rfl rfl rfl ?_
      refine Ak_getI 95 3 hO clX1 (by decide) (Or.inl rfl) lkF_Game_21 (d_Game_numberPositions 56 92 (.getfield 21) 3 rfl) rfl ?_
      refine Ak_sipush 98 (d_Game_numberPositions 57 95 (.sipush 200) 3 rfl) rfl (sp_ok rfl) (rk rfl) ?_
      refine Ak_icmp_ge 144 101 (d_Game_numberPositions 58 98 (.if_icmp .ge 46) 3 rfl) rfl rfl (fun hc => ?_) (fun hc => ?_)
      · replace h := it_t hc h
        refine Ak_iinc 147 (d_Game_numberPositions 85 144 (.iinc 4 1) 3 rfl) rfl rfl (by decide) ?_
        refine Ak_goto 76 (d_Game_numberPositions 86 147 (.goto (-71)) 3 rfl) rfl ?_
        refine Ak_keep [true, true, true, true, true] ?_
        exact hK76 h
      · replace h := it_f hc h
        refine Ak_aload_n 102 0 (d_Game_numberPositions 59 101 (.aload_n 0) 1 rfl) rfl rfl rfl ?_
        refine Ak_getF 105 15 hO clX1 (by decide) rfl lkF_Game_63 (d_Game_numberPositions 60 102 (.getfield 63) 3 rfl) rfl ?_
        refine Ak_aload_n 106 0 (d_Game_numberPositions 61 105 (.aload_n 0) 1 rfl) rfl rfl rfl ?_
        refine Ak_getI 109 3 hO clX1 (by decide) (Or.inl rfl) lkF_Game_21 (d_Game_numberPositions 62 106 (.getfield 21) 3 rfl) rfl ?_
        refine Ak_iconst 110 (d_Game_numberPositions 63 109 (.iconst 2) 1 rfl) rfl (rk rfl) ?_
        refine Ak_imul 111 (d_Game_numberPositions 64 110 (.imul) 1 rfl) rfl ?_
        refine Ak_iload_n 112 3 (d_Game_numberPositions 65 111 (.iload_n 3) 1 rfl) rfl rfl rfl ?_
        obtain ⟨ha1, h⟩ := gd_some h
        refine Ak_iastore 113 ha1 (d_Game_numberPositions 66 112 (.iastore) 1 rfl) rfl (fun V2 hV2 => ?_)
        replace h := wV_some h V2 hV2
        refine Ak_aload_n 114 0 (d_Game_numberPositions 67 113 (.aload_n 0) 1 rfl) rfl rfl rfl ?_
        refine Ak_getF 117 15 hO clX1 (by decide) rfl lkF_Game_63 (d_Game_numberPositions 68 114 (.getfield 63) 3 rfl) rfl ?_
        refine Ak_aload_n 118 0 (d_Game_numberPositions 69 117 (.aload_n 0) 1 rfl) rfl rfl rfl ?_
        refine Ak_getI 121 3 hO clX1 (by decide) (Or.inl rfl) lkF_Game_21 (d_Game_numberPositions 70 118 (.getfield 21) 3 rfl) rfl ?_
        refine Ak_iconst 122 (d_Game_numberPositions 71 121 (.iconst 2) 1 rfl) rfl (rk rfl) ?_
        refine Ak_imul 123 (d_Game_numberPositions 72 122 (.imul) 1 rfl) rfl ?_
        refine Ak_iconst 124 (d_Game_numberPositions 73 123 (.iconst 1) 1 rfl) rfl (rk rfl) ?_
        refine Ak_iadd 125 (d_Game_numberPositions 74 124 (.iadd) 1 rfl) rfl ?_
        refine Ak_iload 127 (d_Game_numberPositions 75 125 (.iload 4) 2 rfl) rfl rfl ?_
        obtain ⟨ha3, h⟩ := gd_some h
        refine Ak_iastore 128 ha3 (d_Game_numberPositions 76 127 (.iastore) 1 rfl) rfl (fun V4 hV4 => ?_)
        replace h := wV_some h V4 hV4
        refine Ak_aload_n 129 0 (d_Game_numberPositions 77 128 (.aload_n 0) 1 rfl) rfl rfl rfl ?_
        refine Ak_dup 130 (d_Game_numberPositions 78 129 (.dup) 1 rfl) rfl rfl ?_
        refine Ak_getI 133 3 hO clX1 (by decide) (Or.inl rfl) lkF_Game_21 (d_Game_numberPositions 79 130 (.getfield 21) 3 rfl) rfl ?_
        refine Ak_iconst 134 (d_Game_numberPositions 80 133 (.iconst 1) 1 rfl) rfl (rk rfl) ?_
        refine Ak_iadd 135 (d_Game_numberPositions 81 134 (.iadd) 1 rfl) rfl ?_
        refine Ak_putI 138 3 hO clX1 (by decide) rfl rfl rfl lkF_Game_21 (d_Game_numberPositions 82 135 (.putfield 21) 3 rfl) rfl (fun V5 hV5 => ?_)
        replace h := wV_some h V5 hV5
        refine Ak_iinc 141 (d_Game_numberPositions 83 138 (.iinc 5 1) 3 rfl) rfl rfl (by decide) ?_
        refine Ak_goto 85 (d_Game_numberPositions 84 141 (.goto (-56)) 3 rfl) rfl ?_
        refine Ak_keep [true, true, true, true, true, true] ?_
        exact ih h
theorem t_Game_numberPositions_L76 {S : ASh} {K68 : ASt → Int → Option (Int × ASt)} {x0 x1 x2 x3 : Int} (hO : isO S x0 1 = true) (hK68 : ∀ {V : ASt} {y3 : Int} {r : Int} {V' : ASt}, K68 V y3 = some (r, V') → AWk m_Game_numberPositions 3 0 0 0 0 68 [some (aR x0), some (aI x1), some (aI x2), some (aI y3)] [] S V none S V') : ∀ (n : Nat) (V : ASt) (x4 : Int) (r : Int) (V' : ASt), b_Game_numberPositions_L76 S K68 x0 x1 x2 x3 n V x4 = some (r, V') → AWk m_Game_numberPositions 3 0 0 0 0 76 [some (aR x0), some (aI x1), some (aI x2), some (aI x3), some (aI x4)] [] S V none S V' := by
  intro n
  induction n with
  | zero => intro V x4 r V' h; cases h
  | succ n ih =>
    intro V x4 r V' h
    replace ih : ∀ {V : ASt} {x4 : Int} {r : Int} {V' : ASt}, b_Game_numberPositions_L76 S K68 x0 x1 x2 x3 n V x4 = some (r, V') → AWk m_Game_numberPositions 3 0 0 0 0 76 [some (aR x0), some (aI x1), some (aI x2), some (aI x3), some (aI x4)] [] S V none S V' := fun h => ih _ _ _ _ h
    rw [b_Game_numberPositions_L76] at h
    refine Ak_iload 78 (d_Game_numberPositions 47 76 (.iload 4) 2 rfl) rfl rfl ?_
    refine Ak_iload_n 79 2 (d_Game_numberPositions 48 78 (.iload_n 2) 1 rfl) rfl rfl rfl ?_
    refine Ak_icmp_ge 150 82 (d_Game_numberPositions 49 79 (.if_icmp .ge 71) 3 rfl) rfl rfl (fun hc => ?_) (fun hc => ?_)
    · replace h := it_t hc h
      refine Ak_iinc 153 (d_Game_numberPositions 87 150 (.iinc 3 1) 3 rfl) rfl rfl (by decide) ?_
      refine Ak_goto 68 (d_Game_numberPositions 88 153 (.goto (-85)) 3 rfl) rfl ?_
      refine Ak_keep [true, true, true, true] ?_
      exact hK68 h
    · replace h := it_f hc h
      refine Ak_iconst 83 (d_Game_numberPositions 50 82 (.iconst 0) 1 rfl) rfl (rk rfl) ?_
      refine Ak_istore 85 (d_Game_numberPositions 51 83 (.istore 5) 2 rfl) rfl (by decide) ?_
      refine Ak_keep [true, true, true, true, true, true] ?_
      exact t_Game_numberPositions_L85 hO (fun h => hK68 h) (fun h => ih h) FU _ _ _ _ h
theorem t_Game_numberPositions_L68 {S : ASh} {x0 x1 x2 : Int} (hO : isO S x0 1 = true) : ∀ (n : Nat) (V : ASt) (x3 : Int) (r : Int) (V' : ASt), b_Game_numberPositions_L68 S x0 x1 x2 n V x3 = some (r, V') → AWk m_Game_numberPositions 3 0 0 0 0 68 [some (aR x0), some (aI x1), some (aI x2), some (aI x3)] [] S V none S V' := by
  intro n
  induction n with
  | zero => intro V x3 r V' h; cases h
  | succ n ih =>
    intro V x3 r V' h
    replace ih : ∀ {V : ASt} {x3 : Int} {r : Int} {V' : ASt}, b_Game_numberPositions_L68 S x0 x1 x2 n V x3 = some (r, V') → AWk m_Game_numberPositions 3 0 0 0 0 68 [some (aR x0), some (aI x1), some (aI x2), some (aI x3)] [] S V none S V' := fun h => ih _ _ _ _ h
    rw [b_Game_numberPositions_L68] at h
    refine Ak_iload_n 69 3 (d_Game_numberPositions 42 68 (.iload_n 3) 1 rfl) rfl rfl rfl ?_
    refine Ak_iload_n 70 1 (d_Game_numberPositions 43 69 (.iload_n 1) 1 rfl) rfl rfl rfl ?_
    refine Ak_icmp_ge 156 73 (d_Game_numberPositions 44 70 (.if_icmp .ge 86) 3 rfl) rfl rfl (fun hc => ?_) (fun hc => ?_)
    · replace h := it_t hc h
      cases h
      exact Ak_vret rfl (d_Game_numberPositions 89 156 (.return_) 1 rfl)
    · replace h := it_f hc h
      refine Ak_iconst 74 (d_Game_numberPositions 45 73 (.iconst 0) 1 rfl) rfl (rk rfl) ?_
      refine Ak_istore 76 (d_Game_numberPositions 46 74 (.istore 4) 2 rfl) rfl (by decide) ?_
      refine Ak_keep [true, true, true, true, true] ?_
      exact t_Game_numberPositions_L76 hO (fun h => ih h) FU _ _ _ _ h
theorem t_Game_numberPositions_J44 {S : ASh} {V : ASt} {x0 x1 s0 : Int} {r : Int} {V' : ASt} (hO : isO S x0 1 = true) (h : b_Game_numberPositions_J44 S  V x0 x1 s0 = some (r, V')) : AWk m_Game_numberPositions 3 0 0 0 0 44 [some (aR x0), some (aI x1)] [(aI s0)] S V none S V' := by
  unfold b_Game_numberPositions_J44 at h
  refine Ak_istore_n 45 2 (d_Game_numberPositions 24 44 (.istore_n 2) 1 rfl) rfl rfl (by decide) ?_
  refine Ak_aload_n 46 0 (d_Game_numberPositions 25 45 (.aload_n 0) 1 rfl) rfl rfl rfl ?_
  refine Ak_getF 49 14 hO clX1 (by decide) rfl lkF_Game_60 (d_Game_numberPositions 26 46 (.getfield 60) 3 rfl) rfl ?_
  refine Ak_iconst 50 (d_Game_numberPositions 27 49 (.iconst 0) 1 rfl) rfl (rk rfl) ?_
  refine Ak_iconst 51 (d_Game_numberPositions 28 50 (.iconst 2) 1 rfl) rfl (rk rfl) ?_
  refine Ak_iload_n 52 2 (d_Game_numberPositions 29 51 (.iload_n 2) 1 rfl) rfl rfl rfl ?_
  refine Ak_imul 53 (d_Game_numberPositions 30 52 (.imul) 1 rfl) rfl ?_
  obtain ⟨ha6, h⟩ := gd_some h
  refine Ak_iastore 54 ha6 (d_Game_numberPositions 31 53 (.iastore) 1 rfl) rfl (fun V7 hV7 => ?_)
  replace h := wV_some h V7 hV7
  refine Ak_aload_n 55 0 (d_Game_numberPositions 32 54 (.aload_n 0) 1 rfl) rfl rfl rfl ?_
  refine Ak_getF 58 14 hO clX1 (by decide) rfl lkF_Game_60 (d_Game_numberPositions 33 55 (.getfield 60) 3 rfl) rfl ?_
  refine Ak_iconst 59 (d_Game_numberPositions 34 58 (.iconst 1) 1 rfl) rfl (rk rfl) ?_
  refine Ak_iconst 60 (d_Game_numberPositions 35 59 (.iconst 2) 1 rfl) rfl (rk rfl) ?_
  obtain ⟨ha8, h⟩ := gd_some h
  refine Ak_iastore 61 ha8 (d_Game_numberPositions 36 60 (.iastore) 1 rfl) rfl (fun V9 hV9 => ?_)
  replace h := wV_some h V9 hV9
  refine Ak_aload_n 62 0 (d_Game_numberPositions 37 61 (.aload_n 0) 1 rfl) rfl rfl rfl ?_
  refine Ak_iconst 63 (d_Game_numberPositions 38 62 (.iconst 0) 1 rfl) rfl (rk rfl) ?_
  refine Ak_putI 66 3 hO clX1 (by decide) rfl rfl rfl lkF_Game_21 (d_Game_numberPositions 39 63 (.putfield 21) 3 rfl) rfl (fun V10 hV10 => ?_)
  replace h := wV_some h V10 hV10
  refine Ak_iconst 67 (d_Game_numberPositions 40 66 (.iconst 0) 1 rfl) rfl (rk rfl) ?_
  refine Ak_istore_n 68 3 (d_Game_numberPositions 41 67 (.istore_n 3) 1 rfl) rfl rfl (by decide) ?_
  refine Ak_keep [true, true, true, true] ?_
  exact t_Game_numberPositions_L68 hO FU _ _ _ _ h
theorem t_Game_numberPositions_J25 {S : ASh} {V : ASt} {x0 s0 : Int} {r : Int} {V' : ASt} (hO : isO S x0 1 = true) (h : b_Game_numberPositions_J25 S  V x0 s0 = some (r, V')) : AWk m_Game_numberPositions 3 0 0 0 0 25 [some (aR x0)] [(aI s0)] S V none S V' := by
  unfold b_Game_numberPositions_J25 at h
  refine Ak_istore_n 26 1 (d_Game_numberPositions 13 25 (.istore_n 1) 1 rfl) rfl rfl (by decide) ?_
  refine Ak_aload_n 27 0 (d_Game_numberPositions 14 26 (.aload_n 0) 1 rfl) rfl rfl rfl ?_
  refine Ak_getI 30 1 hO clX1 (by decide) (Or.inl rfl) lkF_Game_15 (d_Game_numberPositions 15 27 (.getfield 15) 3 rfl) rfl ?_
  refine Ak_iconst 31 (d_Game_numberPositions 16 30 (.iconst 1) 1 rfl) rfl (rk rfl) ?_
  refine Ak_icmp_le 43 34 (d_Game_numberPositions 17 31 (.if_icmp .le 12) 3 rfl) rfl rfl (fun hc => ?_) (fun hc => ?_)
  · replace h := it_t hc h
    refine Ak_iconst 44 (d_Game_numberPositions 23 43 (.iconst 1) 1 rfl) rfl (rk rfl) ?_
    refine Ak_keep [true, true] ?_
    exact t_Game_numberPositions_J44 hO h
  · replace h := it_f hc h
    refine Ak_aload_n 35 0 (d_Game_numberPositions 18 34 (.aload_n 0) 1 rfl) rfl rfl rfl ?_
    refine Ak_getI 38 0 hO clX1 (by decide) (Or.inl rfl) lkF_Game_9 (d_Game_numberPositions 19 35 (.getfield 9) 3 rfl) rfl ?_
    refine Ak_iconst 39 (d_Game_numberPositions 20 38 (.iconst 1) 1 rfl) rfl (rk rfl) ?_
    refine Ak_iadd 40 (d_Game_numberPositions 21 39 (.iadd) 1 rfl) rfl ?_
    refine Ak_goto 44 (d_Game_numberPositions 22 40 (.goto 4) 3 rfl) rfl ?_
    refine Ak_keep [true, true] ?_
    exact t_Game_numberPositions_J44 hO h
theorem c_Game_numberPositions {S : ASh} {V : ASt} {x0 : Int} {r : Int} {V' : ASt} (h : f_Game_numberPositions S V x0 = some (r, V')) : ACt m_Game_numberPositions 3 0 0 [(aR x0)] S V none S V' := by
  unfold f_Game_numberPositions at h
  obtain ⟨hO, h⟩ := gd_some h
  refine ACt_of (plainFor_of_name rfl) rfl (Nat.le_of_ble_eq_true rfl) ?_
  show AWk m_Game_numberPositions 3 0 0 0 0 0 [some (aR x0)] [] S V none S V'
  refine Ak_aload_n 1 0 (d_Game_numberPositions 0 0 (.aload_n 0) 1 rfl) rfl rfl rfl ?_
  refine Ak_getF 4 16 hO clX1 (by decide) rfl lkF_Game_66 (d_Game_numberPositions 1 1 (.getfield 66) 3 rfl) rfl ?_
  refine Ak_iconst 5 (d_Game_numberPositions 2 4 (.iconst 0) 1 rfl) rfl (rk rfl) ?_
  obtain ⟨r11, V12, h13, h⟩ := bnd_some h
  refine Ak_cS0 8 2 (c_Arrays_fill h13) rfl mok_Arrays_fill lkM_Game_72 (d_Game_numberPositions 3 5 (.invokestatic 72) 3 rfl) rfl (by decide) (Nat.le_of_ble_eq_true rfl) ?_
  refine Ak_aload_n 9 0 (d_Game_numberPositions 4 8 (.aload_n 0) 1 rfl) rfl rfl rfl ?_
  refine Ak_getI 12 1 hO clX1 (by decide) (Or.inl rfl) lkF_Game_15 (d_Game_numberPositions 5 9 (.getfield 15) 3 rfl) rfl ?_
  refine Ak_if_le 24 15 (d_Game_numberPositions 6 12 (.ifCond .le 12) 3 rfl) rfl rfl (fun hc => ?_) (fun hc => ?_)
  · replace h := it_t hc h
    refine Ak_iconst 25 (d_Game_numberPositions 12 24 (.iconst 1) 1 rfl) rfl (rk rfl) ?_
    refine Ak_keep [true] ?_
    exact t_Game_numberPositions_J25 hO h
  · replace h := it_f hc h
    refine Ak_aload_n 16 0 (d_Game_numberPositions 7 15 (.aload_n 0) 1 rfl) rfl rfl rfl ?_
    refine Ak_getI 19 0 hO clX1 (by decide) (Or.inl rfl) lkF_Game_9 (d_Game_numberPositions 8 16 (.getfield 9) 3 rfl) rfl ?_
    refine Ak_iconst 20 (d_Game_numberPositions 9 19 (.iconst 1) 1 rfl) rfl (rk rfl) ?_
    refine Ak_iadd 21 (d_Game_numberPositions 10 20 (.iadd) 1 rfl) rfl ?_
    refine Ak_goto 25 (d_Game_numberPositions 11 21 (.goto 4) 3 rfl) rfl ?_
    refine Ak_keep [true] ?_
    exact t_Game_numberPositions_J25 hO h
theorem c_Game_isPosition {S : ASh} {V : ASt} {x0 x1 : Int} {r : Int} {V' : ASt} (h : f_Game_isPosition S V x0 x1 = some (r, V')) : ACt m_Game_isPosition 2 0 0 [(aR x0), (aI x1)] S V (some (aI r)) S V' := by
  unfold f_Game_isPosition at h
  obtain ⟨hO, h⟩ := gd_some h
  refine ACt_of (plainFor_of_name rfl) rfl (Nat.le_of_ble_eq_true rfl) ?_
  show AWk m_Game_isPosition 2 0 0 0 0 0 [some (aR x0), some (aI x1)] [] S V (some (aI r)) S V'
  refine Ak_iload_n 1 1 (d_Game_isPosition 0 0 (.iload_n 1) 1 rfl) rfl rfl rfl ?_
  refine Ak_if_lt 16 4 (d_Game_isPosition 1 1 (.ifCond .lt 15) 3 rfl) rfl rfl (fun hc => ?_) (fun hc => ?_)
  · replace h := it_t hc h
    refine Ak_iconst 17 (d_Game_isPosition 8 16 (.iconst 0) 1 rfl) rfl (rk rfl) ?_
    cases h
    exact Ak_zret (Or.inl rfl) rfl (d_Game_isPosition 9 17 (.ireturn) 1 rfl)
  · replace h := it_f hc h
    refine Ak_iload_n 5 1 (d_Game_isPosition 2 4 (.iload_n 1) 1 rfl) rfl rfl rfl ?_
    refine Ak_aload_n 6 0 (d_Game_isPosition 3 5 (.aload_n 0) 1 rfl) rfl rfl rfl ?_
    refine Ak_getI 9 3 hO clX1 (by decide) (Or.inl rfl) lkF_Game_21 (d_Game_isPosition 4 6 (.getfield 21) 3 rfl) rfl ?_
    refine Ak_icmp_ge 16 12 (d_Game_isPosition 5 9 (.if_icmp .ge 7) 3 rfl) rfl rfl (fun hc => ?_) (fun hc => ?_)
    · replace h := it_t hc h
      refine Ak_iconst 17 (d_Game_isPosition 8 16 (.iconst 0) 1 rfl) rfl (rk rfl) ?_
      cases h
      exact Ak_zret (Or.inl rfl) rfl (d_Game_isPosition 9 17 (.ireturn) 1 rfl)
    · replace h := it_f hc h
      refine Ak_iconst 13 (d_Game_isPosition 6 12 (.iconst 1) 1 rfl) rfl (rk rfl) ?_
      refine Ak_goto 17 (d_Game_isPosition 7 13 (.goto 4) 3 rfl) rfl ?_
      cases h
      exact Ak_zret (Or.inr rfl) rfl (d_Game_isPosition 9 17 (.ireturn) 1 rfl)
theorem c_Game_isRule {S : ASh} {V : ASt} {x0 x1 : Int} {r : Int} {V' : ASt} (h : f_Game_isRule S V x0 x1 = some (r, V')) : ACt m_Game_isRule 2 0 0 [(aR x0), (aI x1)] S V (some (aI r)) S V' := by
  unfold f_Game_isRule at h
  obtain ⟨hO, h⟩ := gd_some h
  refine ACt_of (plainFor_of_name rfl) rfl (Nat.le_of_ble_eq_true rfl) ?_
  show AWk m_Game_isRule 2 0 0 0 0 0 [some (aR x0), some (aI x1)] [] S V (some (aI r)) S V'
  refine Ak_iload_n 1 1 (d_Game_isRule 0 0 (.iload_n 1) 1 rfl) rfl rfl rfl ?_
  refine Ak_if_lt 16 4 (d_Game_isRule 1 1 (.ifCond .lt 15) 3 rfl) rfl rfl (fun hc => ?_) (fun hc => ?_)
  · replace h := it_t hc h
    refine Ak_iconst 17 (d_Game_isRule 8 16 (.iconst 0) 1 rfl) rfl (rk rfl) ?_
    cases h
    exact Ak_zret (Or.inl rfl) rfl (d_Game_isRule 9 17 (.ireturn) 1 rfl)
  · replace h := it_f hc h
    refine Ak_iload_n 5 1 (d_Game_isRule 2 4 (.iload_n 1) 1 rfl) rfl rfl rfl ?_
    refine Ak_aload_n 6 0 (d_Game_isRule 3 5 (.aload_n 0) 1 rfl) rfl rfl rfl ?_
    refine Ak_getI 9 2 hO clX1 (by decide) (Or.inl rfl) lkF_Game_18 (d_Game_isRule 4 6 (.getfield 18) 3 rfl) rfl ?_
    refine Ak_icmp_ge 16 12 (d_Game_isRule 5 9 (.if_icmp .ge 7) 3 rfl) rfl rfl (fun hc => ?_) (fun hc => ?_)
    · replace h := it_t hc h
      refine Ak_iconst 17 (d_Game_isRule 8 16 (.iconst 0) 1 rfl) rfl (rk rfl) ?_
      cases h
      exact Ak_zret (Or.inl rfl) rfl (d_Game_isRule 9 17 (.ireturn) 1 rfl)
    · replace h := it_f hc h
      refine Ak_iconst 13 (d_Game_isRule 6 12 (.iconst 1) 1 rfl) rfl (rk rfl) ?_
      refine Ak_goto 17 (d_Game_isRule 7 13 (.goto 4) 3 rfl) rfl ?_
      cases h
      exact Ak_zret (Or.inr rfl) rfl (d_Game_isRule 9 17 (.ireturn) 1 rfl)
theorem c_Game_kindOf {S : ASh} {V : ASt} {x0 x1 : Int} {r : Int} {V' : ASt} (h : f_Game_kindOf S V x0 x1 = some (r, V')) : ACt m_Game_kindOf 3 0 0 [(aR x0), (aI x1)] S V (some (aI r)) S V' := by
  unfold f_Game_kindOf at h
  obtain ⟨hO, h⟩ := gd_some h
  refine ACt_of (plainFor_of_name rfl) rfl (Nat.le_of_ble_eq_true rfl) ?_
  show AWk m_Game_kindOf 3 0 0 0 0 0 [some (aR x0), some (aI x1)] [] S V (some (aI r)) S V'
  refine Ak_aload_n 1 0 (d_Game_kindOf 0 0 (.aload_n 0) 1 rfl) rfl rfl rfl ?_
  refine Ak_iload_n 2 1 (d_Game_kindOf 1 1 (.iload_n 1) 1 rfl) rfl rfl rfl ?_
  obtain ⟨r1, V2, h3, h⟩ := bnd_some h
  refine Ak_cV1 5 2 (c_Game_isRule h3) rfl hO clX1 rfl mok_Game_isRule lkM_Game_78 (d_Game_kindOf 2 2 (.invokevirtual 78) 3 rfl) rfl (by decide) (Nat.le_of_ble_eq_true rfl) ?_
  refine Ak_if_eq 17 8 (d_Game_kindOf 3 5 (.ifCond .eq 12) 3 rfl) rfl rfl (fun hc => ?_) (fun hc => ?_)
  · replace h := it_t hc h
    refine Ak_iconst 18 (d_Game_kindOf 9 17 (.iconst (-1)) 1 rfl) rfl (rk rfl) ?_
    cases h
    exact Ak_iret rfl (d_Game_kindOf 10 18 (.ireturn) 1 rfl)
  · replace h := it_f hc h
    refine Ak_aload_n 9 0 (d_Game_kindOf 4 8 (.aload_n 0) 1 rfl) rfl rfl rfl ?_
    refine Ak_getF 12 9 hO clX1 (by decide) rfl lkF_Game_44 (d_Game_kindOf 5 9 (.getfield 44) 3 rfl) rfl ?_
    refine Ak_iload_n 13 1 (d_Game_kindOf 6 12 (.iload_n 1) 1 rfl) rfl rfl rfl ?_
    obtain ⟨ha4, h⟩ := gd_some h
    refine Ak_iaload 14 ha4 (d_Game_kindOf 7 13 (.iaload) 1 rfl) rfl ?_
    refine Ak_goto 18 (d_Game_kindOf 8 14 (.goto 4) 3 rfl) rfl ?_
    cases h
    exact Ak_iret rfl (d_Game_kindOf 10 18 (.ireturn) 1 rfl)
theorem c_Game_pieceOf {S : ASh} {V : ASt} {x0 x1 : Int} {r : Int} {V' : ASt} (h : f_Game_pieceOf S V x0 x1 = some (r, V')) : ACt m_Game_pieceOf 3 0 0 [(aR x0), (aI x1)] S V (some (aI r)) S V' := by
  unfold f_Game_pieceOf at h
  obtain ⟨hO, h⟩ := gd_some h
  refine ACt_of (plainFor_of_name rfl) rfl (Nat.le_of_ble_eq_true rfl) ?_
  show AWk m_Game_pieceOf 3 0 0 0 0 0 [some (aR x0), some (aI x1)] [] S V (some (aI r)) S V'
  refine Ak_aload_n 1 0 (d_Game_pieceOf 0 0 (.aload_n 0) 1 rfl) rfl rfl rfl ?_
  refine Ak_iload_n 2 1 (d_Game_pieceOf 1 1 (.iload_n 1) 1 rfl) rfl rfl rfl ?_
  obtain ⟨r1, V2, h3, h⟩ := bnd_some h
  refine Ak_cV1 5 2 (c_Game_isRule h3) rfl hO clX1 rfl mok_Game_isRule lkM_Game_78 (d_Game_pieceOf 2 2 (.invokevirtual 78) 3 rfl) rfl (by decide) (Nat.le_of_ble_eq_true rfl) ?_
  refine Ak_if_eq 17 8 (d_Game_pieceOf 3 5 (.ifCond .eq 12) 3 rfl) rfl rfl (fun hc => ?_) (fun hc => ?_)
  · replace h := it_t hc h
    refine Ak_iconst 18 (d_Game_pieceOf 9 17 (.iconst (-1)) 1 rfl) rfl (rk rfl) ?_
    cases h
    exact Ak_iret rfl (d_Game_pieceOf 10 18 (.ireturn) 1 rfl)
  · replace h := it_f hc h
    refine Ak_aload_n 9 0 (d_Game_pieceOf 4 8 (.aload_n 0) 1 rfl) rfl rfl rfl ?_
    refine Ak_getF 12 10 hO clX1 (by decide) rfl lkF_Game_47 (d_Game_pieceOf 5 9 (.getfield 47) 3 rfl) rfl ?_
    refine Ak_iload_n 13 1 (d_Game_pieceOf 6 12 (.iload_n 1) 1 rfl) rfl rfl rfl ?_
    obtain ⟨ha4, h⟩ := gd_some h
    refine Ak_iaload 14 ha4 (d_Game_pieceOf 7 13 (.iaload) 1 rfl) rfl ?_
    refine Ak_goto 18 (d_Game_pieceOf 8 14 (.goto 4) 3 rfl) rfl ?_
    cases h
    exact Ak_iret rfl (d_Game_pieceOf 10 18 (.ireturn) 1 rfl)
theorem c_Game_wayOf {S : ASh} {V : ASt} {x0 x1 : Int} {r : Int} {V' : ASt} (h : f_Game_wayOf S V x0 x1 = some (r, V')) : ACt m_Game_wayOf 3 0 0 [(aR x0), (aI x1)] S V (some (aI r)) S V' := by
  unfold f_Game_wayOf at h
  obtain ⟨hO, h⟩ := gd_some h
  refine ACt_of (plainFor_of_name rfl) rfl (Nat.le_of_ble_eq_true rfl) ?_
  show AWk m_Game_wayOf 3 0 0 0 0 0 [some (aR x0), some (aI x1)] [] S V (some (aI r)) S V'
  refine Ak_aload_n 1 0 (d_Game_wayOf 0 0 (.aload_n 0) 1 rfl) rfl rfl rfl ?_
  refine Ak_iload_n 2 1 (d_Game_wayOf 1 1 (.iload_n 1) 1 rfl) rfl rfl rfl ?_
  obtain ⟨r1, V2, h3, h⟩ := bnd_some h
  refine Ak_cV1 5 2 (c_Game_isRule h3) rfl hO clX1 rfl mok_Game_isRule lkM_Game_78 (d_Game_wayOf 2 2 (.invokevirtual 78) 3 rfl) rfl (by decide) (Nat.le_of_ble_eq_true rfl) ?_
  refine Ak_if_eq 17 8 (d_Game_wayOf 3 5 (.ifCond .eq 12) 3 rfl) rfl rfl (fun hc => ?_) (fun hc => ?_)
  · replace h := it_t hc h
    refine Ak_iconst 18 (d_Game_wayOf 9 17 (.iconst (-1)) 1 rfl) rfl (rk rfl) ?_
    cases h
    exact Ak_iret rfl (d_Game_wayOf 10 18 (.ireturn) 1 rfl)
  · replace h := it_f hc h
    refine Ak_aload_n 9 0 (d_Game_wayOf 4 8 (.aload_n 0) 1 rfl) rfl rfl rfl ?_
    refine Ak_getF 12 11 hO clX1 (by decide) rfl lkF_Game_50 (d_Game_wayOf 5 9 (.getfield 50) 3 rfl) rfl ?_
    refine Ak_iload_n 13 1 (d_Game_wayOf 6 12 (.iload_n 1) 1 rfl) rfl rfl rfl ?_
    obtain ⟨ha4, h⟩ := gd_some h
    refine Ak_iaload 14 ha4 (d_Game_wayOf 7 13 (.iaload) 1 rfl) rfl ?_
    refine Ak_goto 18 (d_Game_wayOf 8 14 (.goto 4) 3 rfl) rfl ?_
    cases h
    exact Ak_iret rfl (d_Game_wayOf 10 18 (.ireturn) 1 rfl)
theorem c_Game_stepOf {S : ASh} {V : ASt} {x0 x1 : Int} {r : Int} {V' : ASt} (h : f_Game_stepOf S V x0 x1 = some (r, V')) : ACt m_Game_stepOf 3 0 0 [(aR x0), (aI x1)] S V (some (aI r)) S V' := by
  unfold f_Game_stepOf at h
  obtain ⟨hO, h⟩ := gd_some h
  refine ACt_of (plainFor_of_name rfl) rfl (Nat.le_of_ble_eq_true rfl) ?_
  show AWk m_Game_stepOf 3 0 0 0 0 0 [some (aR x0), some (aI x1)] [] S V (some (aI r)) S V'
  refine Ak_aload_n 1 0 (d_Game_stepOf 0 0 (.aload_n 0) 1 rfl) rfl rfl rfl ?_
  refine Ak_iload_n 2 1 (d_Game_stepOf 1 1 (.iload_n 1) 1 rfl) rfl rfl rfl ?_
  obtain ⟨r1, V2, h3, h⟩ := bnd_some h
  refine Ak_cV1 5 2 (c_Game_isRule h3) rfl hO clX1 rfl mok_Game_isRule lkM_Game_78 (d_Game_stepOf 2 2 (.invokevirtual 78) 3 rfl) rfl (by decide) (Nat.le_of_ble_eq_true rfl) ?_
  refine Ak_if_eq 17 8 (d_Game_stepOf 3 5 (.ifCond .eq 12) 3 rfl) rfl rfl (fun hc => ?_) (fun hc => ?_)
  · replace h := it_t hc h
    refine Ak_iconst 18 (d_Game_stepOf 9 17 (.iconst 0) 1 rfl) rfl (rk rfl) ?_
    cases h
    exact Ak_iret rfl (d_Game_stepOf 10 18 (.ireturn) 1 rfl)
  · replace h := it_f hc h
    refine Ak_aload_n 9 0 (d_Game_stepOf 4 8 (.aload_n 0) 1 rfl) rfl rfl rfl ?_
    refine Ak_getF 12 12 hO clX1 (by decide) rfl lkF_Game_53 (d_Game_stepOf 5 9 (.getfield 53) 3 rfl) rfl ?_
    refine Ak_iload_n 13 1 (d_Game_stepOf 6 12 (.iload_n 1) 1 rfl) rfl rfl rfl ?_
    obtain ⟨ha4, h⟩ := gd_some h
    refine Ak_iaload 14 ha4 (d_Game_stepOf 7 13 (.iaload) 1 rfl) rfl ?_
    refine Ak_goto 18 (d_Game_stepOf 8 14 (.goto 4) 3 rfl) rfl ?_
    cases h
    exact Ak_iret rfl (d_Game_stepOf 10 18 (.ireturn) 1 rfl)
theorem c_Game_isEver {S : ASh} {V : ASt} {x0 x1 : Int} {r : Int} {V' : ASt} (h : f_Game_isEver S V x0 x1 = some (r, V')) : ACt m_Game_isEver 3 0 0 [(aR x0), (aI x1)] S V (some (aI r)) S V' := by
  unfold f_Game_isEver at h
  obtain ⟨hO, h⟩ := gd_some h
  refine ACt_of (plainFor_of_name rfl) rfl (Nat.le_of_ble_eq_true rfl) ?_
  show AWk m_Game_isEver 3 0 0 0 0 0 [some (aR x0), some (aI x1)] [] S V (some (aI r)) S V'
  refine Ak_aload_n 1 0 (d_Game_isEver 0 0 (.aload_n 0) 1 rfl) rfl rfl rfl ?_
  refine Ak_iload_n 2 1 (d_Game_isEver 1 1 (.iload_n 1) 1 rfl) rfl rfl rfl ?_
  obtain ⟨r1, V2, h3, h⟩ := bnd_some h
  refine Ak_cV1 5 2 (c_Game_isRule h3) rfl hO clX1 rfl mok_Game_isRule lkM_Game_78 (d_Game_isEver 2 2 (.invokevirtual 78) 3 rfl) rfl (by decide) (Nat.le_of_ble_eq_true rfl) ?_
  refine Ak_if_eq 21 8 (d_Game_isEver 3 5 (.ifCond .eq 16) 3 rfl) rfl rfl (fun hc => ?_) (fun hc => ?_)
  · replace h := it_t hc h
    refine Ak_iconst 22 (d_Game_isEver 11 21 (.iconst 0) 1 rfl) rfl (rk rfl) ?_
    cases h
    exact Ak_zret (Or.inl rfl) rfl (d_Game_isEver 12 22 (.ireturn) 1 rfl)
  · replace h := it_f hc h
    refine Ak_aload_n 9 0 (d_Game_isEver 4 8 (.aload_n 0) 1 rfl) rfl rfl rfl ?_
    refine Ak_getF 12 13 hO clX1 (by decide) rfl lkF_Game_56 (d_Game_isEver 5 9 (.getfield 56) 3 rfl) rfl ?_
    refine Ak_iload_n 13 1 (d_Game_isEver 6 12 (.iload_n 1) 1 rfl) rfl rfl rfl ?_
    obtain ⟨ha4, h⟩ := gd_some h
    refine Ak_baload 14 ha4 (d_Game_isEver 7 13 (.baload) 1 rfl) rfl ?_
    refine Ak_if_eq 21 17 (d_Game_isEver 8 14 (.ifCond .eq 7) 3 rfl) rfl rfl (fun hc => ?_) (fun hc => ?_)
    · replace h := it_t hc h
      refine Ak_iconst 22 (d_Game_isEver 11 21 (.iconst 0) 1 rfl) rfl (rk rfl) ?_
      cases h
      exact Ak_zret (Or.inl rfl) rfl (d_Game_isEver 12 22 (.ireturn) 1 rfl)
    · replace h := it_f hc h
      refine Ak_iconst 18 (d_Game_isEver 9 17 (.iconst 1) 1 rfl) rfl (rk rfl) ?_
      refine Ak_goto 22 (d_Game_isEver 10 18 (.goto 4) 3 rfl) rfl ?_
      cases h
      exact Ak_zret (Or.inr rfl) rfl (d_Game_isEver 12 22 (.ireturn) 1 rfl)
theorem t_Game_pieceNamed_L2 {S : ASh} {x0 x1 : Int} (hO : isO S x0 1 = true) : ∀ (n : Nat) (V : ASt) (x2 : Int) (r : Int) (V' : ASt), b_Game_pieceNamed_L2 S x0 x1 n V x2 = some (r, V') → AWk m_Game_pieceNamed 2 0 0 0 0 2 [some (aR x0), some (aI x1), some (aI x2)] [] S V (some (aI r)) S V' := by
  intro n
  induction n with
  | zero => intro V x2 r V' h; cases h
  | succ n ih =>
    intro V x2 r V' h
    replace ih : ∀ {V : ASt} {x2 : Int} {r : Int} {V' : ASt}, b_Game_pieceNamed_L2 S x0 x1 n V x2 = some (r, V') → AWk m_Game_pieceNamed 2 0 0 0 0 2 [some (aR x0), some (aI x1), some (aI x2)] [] S V (some (aI r)) S V' := fun h => ih _ _ _ _ h
    rw [b_Game_pieceNamed_L2] at h
    refine Ak_iload_n 3 2 (d_Game_pieceNamed 2 2 (.iload_n 2) 1 rfl) rfl rfl rfl ?_
    refine Ak_aload_n 4 0 (d_Game_pieceNamed 3 3 (.aload_n 0) 1 rfl) rfl rfl rfl ?_
    refine Ak_getI 7 1 hO clX1 (by decide) (Or.inl rfl) lkF_Game_15 (d_Game_pieceNamed 4 4 (.getfield 15) 3 rfl) rfl ?_
    refine Ak_icmp_ge 28 10 (d_Game_pieceNamed 5 7 (.if_icmp .ge 21) 3 rfl) rfl rfl (fun hc => ?_) (fun hc => ?_)
    · replace h := it_t hc h
      refine Ak_iconst 29 (d_Game_pieceNamed 16 28 (.iconst (-1)) 1 rfl) rfl (rk rfl) ?_
      cases h
      exact Ak_iret rfl (d_Game_pieceNamed 17 29 (.ireturn) 1 rfl)
    · replace h := it_f hc h
      refine Ak_aload_n 11 0 (d_Game_pieceNamed 6 10 (.aload_n 0) 1 rfl) rfl rfl rfl ?_
      refine Ak_getF 14 6 hO clX1 (by decide) rfl lkF_Game_34 (d_Game_pieceNamed 7 11 (.getfield 34) 3 rfl) rfl ?_
      refine Ak_iload_n 15 2 (d_Game_pieceNamed 8 14 (.iload_n 2) 1 rfl) rfl rfl rfl ?_
      obtain ⟨ha1, h⟩ := gd_some h
      refine Ak_iaload 16 ha1 (d_Game_pieceNamed 9 15 (.iaload) 1 rfl) rfl ?_
      refine Ak_iload_n 17 1 (d_Game_pieceNamed 10 16 (.iload_n 1) 1 rfl) rfl rfl rfl ?_
      refine Ak_icmp_ne 22 20 (d_Game_pieceNamed 11 17 (.if_icmp .ne 5) 3 rfl) rfl rfl (fun hc => ?_) (fun hc => ?_)
      · replace h := it_f hc h
        refine Ak_iinc 25 (d_Game_pieceNamed 14 22 (.iinc 2 1) 3 rfl) rfl rfl (by decide) ?_
        refine Ak_goto 2 (d_Game_pieceNamed 15 25 (.goto (-23)) 3 rfl) rfl ?_
        refine Ak_keep [true, true, true] ?_
        exact ih h
      · replace h := it_t hc h
        refine Ak_iload_n 21 2 (d_Game_pieceNamed 12 20 (.iload_n 2) 1 rfl) rfl rfl rfl ?_
        cases h
        exact Ak_iret rfl (d_Game_pieceNamed 13 21 (.ireturn) 1 rfl)
theorem c_Game_pieceNamed {S : ASh} {V : ASt} {x0 x1 : Int} {r : Int} {V' : ASt} (h : f_Game_pieceNamed S V x0 x1 = some (r, V')) : ACt m_Game_pieceNamed 2 0 0 [(aR x0), (aI x1)] S V (some (aI r)) S V' := by
  unfold f_Game_pieceNamed at h
  obtain ⟨hO, h⟩ := gd_some h
  refine ACt_of (plainFor_of_name rfl) rfl (Nat.le_of_ble_eq_true rfl) ?_
  show AWk m_Game_pieceNamed 2 0 0 0 0 0 [some (aR x0), some (aI x1)] [] S V (some (aI r)) S V'
  refine Ak_iconst 1 (d_Game_pieceNamed 0 0 (.iconst 0) 1 rfl) rfl (rk rfl) ?_
  refine Ak_istore_n 2 2 (d_Game_pieceNamed 1 1 (.istore_n 2) 1 rfl) rfl rfl (by decide) ?_
  refine Ak_keep [true, true, true] ?_
  exact t_Game_pieceNamed_L2 hO FU _ _ _ _ h
theorem t_Tokens_letterOf_J24 {S : ASh} {V : ASt} {s0 : Int} {r : Int} {V' : ASt} (h : b_Tokens_letterOf_J24 S  V s0 = some (r, V')) : AWk m_Tokens_letterOf 2 0 0 0 0 24 [] [(aI s0)] S V (some (aI r)) S V' := by
  unfold b_Tokens_letterOf_J24 at h
  refine Ak_istore_n 25 2 (d_Tokens_letterOf 16 24 (.istore_n 2) 1 rfl) rfl rfl (by decide) ?_
  refine Ak_iload_n 26 2 (d_Tokens_letterOf 17 25 (.iload_n 2) 1 rfl) rfl rfl rfl ?_
  refine Ak_if_ne 33 29 (d_Tokens_letterOf 18 26 (.ifCond .ne 7) 3 rfl) rfl rfl (fun hc => ?_) (fun hc => ?_)
  · replace h := it_f hc h
    refine Ak_iload_n 34 2 (d_Tokens_letterOf 21 33 (.iload_n 2) 1 rfl) rfl rfl rfl ?_
    refine Ak_bipush 36 (d_Tokens_letterOf 22 34 (.bipush 97) 2 rfl) rfl (bp_ok rfl) (rk rfl) ?_
    refine Ak_iadd 37 (d_Tokens_letterOf 23 36 (.iadd) 1 rfl) rfl ?_
    refine Ak_iconst 38 (d_Tokens_letterOf 24 37 (.iconst 1) 1 rfl) rfl (rk rfl) ?_
    refine Ak_isub 39 (d_Tokens_letterOf 25 38 (.isub) 1 rfl) rfl ?_
    cases h
    exact Ak_iret rfl (d_Tokens_letterOf 26 39 (.ireturn) 1 rfl)
  · replace h := it_t hc h
    refine Ak_iconst 30 (d_Tokens_letterOf 19 29 (.iconst (-1)) 1 rfl) rfl (rk rfl) ?_
    refine Ak_goto 39 (d_Tokens_letterOf 20 30 (.goto 9) 3 rfl) rfl ?_
    cases h
    exact Ak_iret rfl (d_Tokens_letterOf 26 39 (.ireturn) 1 rfl)
theorem c_Tokens_letterOf {S : ASh} {V : ASt} {x0 x1 : Int} {r : Int} {V' : ASt} (h : f_Tokens_letterOf S V x0 x1 = some (r, V')) : ACt m_Tokens_letterOf 2 0 0 [(aI x0), (aI x1)] S V (some (aI r)) S V' := by
  unfold f_Tokens_letterOf at h
  refine ACt_of (plainFor_of_name rfl) rfl (Nat.le_of_ble_eq_true rfl) ?_
  show AWk m_Tokens_letterOf 2 0 0 0 0 0 [some (aI x0), some (aI x1)] [] S V (some (aI r)) S V'
  refine Ak_iload_n 1 1 (d_Tokens_letterOf 0 0 (.iload_n 1) 1 rfl) rfl rfl rfl ?_
  refine Ak_if_lt 23 4 (d_Tokens_letterOf 1 1 (.ifCond .lt 22) 3 rfl) rfl rfl (fun hc => ?_) (fun hc => ?_)
  · replace h := it_t hc h
    refine Ak_iconst 24 (d_Tokens_letterOf 15 23 (.iconst 0) 1 rfl) rfl (rk rfl) ?_
    refine Ak_keep [] ?_
    exact t_Tokens_letterOf_J24  h
  · replace h := it_f hc h
    refine Ak_iload_n 5 1 (d_Tokens_letterOf 2 4 (.iload_n 1) 1 rfl) rfl rfl rfl ?_
    refine Ak_bipush 7 (d_Tokens_letterOf 3 5 (.bipush 6) 2 rfl) rfl (bp_ok rfl) (rk rfl) ?_
    refine Ak_icmp_ge 23 10 (d_Tokens_letterOf 4 7 (.if_icmp .ge 16) 3 rfl) rfl rfl (fun hc => ?_) (fun hc => ?_)
    · replace h := it_t hc h
      refine Ak_iconst 24 (d_Tokens_letterOf 15 23 (.iconst 0) 1 rfl) rfl (rk rfl) ?_
      refine Ak_keep [] ?_
      exact t_Tokens_letterOf_J24  h
    · replace h := it_f hc h
      refine Ak_iload_n 11 0 (d_Tokens_letterOf 5 10 (.iload_n 0) 1 rfl) rfl rfl rfl ?_
      refine Ak_iconst 12 (d_Tokens_letterOf 6 11 (.iconst 5) 1 rfl) rfl (rk rfl) ?_
      refine Ak_iconst 13 (d_Tokens_letterOf 7 12 (.iconst 5) 1 rfl) rfl (rk rfl) ?_
      refine Ak_iload_n 14 1 (d_Tokens_letterOf 8 13 (.iload_n 1) 1 rfl) rfl rfl rfl ?_
      refine Ak_isub 15 (d_Tokens_letterOf 9 14 (.isub) 1 rfl) rfl ?_
      refine Ak_imul 16 (d_Tokens_letterOf 10 15 (.imul) 1 rfl) rfl ?_
      refine Ak_ishr 17 (d_Tokens_letterOf 11 16 (.ishr) 1 rfl) rfl ?_
      refine Ak_bipush 19 (d_Tokens_letterOf 12 17 (.bipush 31) 2 rfl) rfl (bp_ok rfl) (rk rfl) ?_
      refine Ak_iand 20 (d_Tokens_letterOf 13 19 (.iand) 1 rfl) rfl ?_
      refine Ak_goto 24 (d_Tokens_letterOf 14 20 (.goto 4) 3 rfl) rfl ?_
      refine Ak_keep [] ?_
      exact t_Tokens_letterOf_J24  h
theorem c_Game_letterOf {S : ASh} {V : ASt} {x0 x1 x2 : Int} {r : Int} {V' : ASt} (h : f_Game_letterOf S V x0 x1 x2 = some (r, V')) : ACt m_Game_letterOf 3 0 0 [(aR x0), (aI x1), (aI x2)] S V (some (aI r)) S V' := by
  unfold f_Game_letterOf at h
  obtain ⟨hO, h⟩ := gd_some h
  refine ACt_of (plainFor_of_name rfl) rfl (Nat.le_of_ble_eq_true rfl) ?_
  show AWk m_Game_letterOf 3 0 0 0 0 0 [some (aR x0), some (aI x1), some (aI x2)] [] S V (some (aI r)) S V'
  refine Ak_iload_n 1 1 (d_Game_letterOf 0 0 (.iload_n 1) 1 rfl) rfl rfl rfl ?_
  refine Ak_if_lt 25 4 (d_Game_letterOf 1 1 (.ifCond .lt 24) 3 rfl) rfl rfl (fun hc => ?_) (fun hc => ?_)
  · replace h := it_t hc h
    refine Ak_iconst 26 (d_Game_letterOf 13 25 (.iconst (-1)) 1 rfl) rfl (rk rfl) ?_
    cases h
    exact Ak_iret rfl (d_Game_letterOf 14 26 (.ireturn) 1 rfl)
  · replace h := it_f hc h
    refine Ak_iload_n 5 1 (d_Game_letterOf 2 4 (.iload_n 1) 1 rfl) rfl rfl rfl ?_
    refine Ak_aload_n 6 0 (d_Game_letterOf 3 5 (.aload_n 0) 1 rfl) rfl rfl rfl ?_
    refine Ak_getI 9 1 hO clX1 (by decide) (Or.inl rfl) lkF_Game_15 (d_Game_letterOf 4 6 (.getfield 15) 3 rfl) rfl ?_
    refine Ak_icmp_ge 25 12 (d_Game_letterOf 5 9 (.if_icmp .ge 16) 3 rfl) rfl rfl (fun hc => ?_) (fun hc => ?_)
    · replace h := it_t hc h
      refine Ak_iconst 26 (d_Game_letterOf 13 25 (.iconst (-1)) 1 rfl) rfl (rk rfl) ?_
      cases h
      exact Ak_iret rfl (d_Game_letterOf 14 26 (.ireturn) 1 rfl)
    · replace h := it_f hc h
      refine Ak_aload_n 13 0 (d_Game_letterOf 6 12 (.aload_n 0) 1 rfl) rfl rfl rfl ?_
      refine Ak_getF 16 6 hO clX1 (by decide) rfl lkF_Game_34 (d_Game_letterOf 7 13 (.getfield 34) 3 rfl) rfl ?_
      refine Ak_iload_n 17 1 (d_Game_letterOf 8 16 (.iload_n 1) 1 rfl) rfl rfl rfl ?_
      obtain ⟨ha1, h⟩ := gd_some h
      refine Ak_iaload 18 ha1 (d_Game_letterOf 9 17 (.iaload) 1 rfl) rfl ?_
      refine Ak_iload_n 19 2 (d_Game_letterOf 10 18 (.iload_n 2) 1 rfl) rfl rfl rfl ?_
      obtain ⟨r2, V3, h4, h⟩ := bnd_some h
      refine Ak_cS1 22 2 (c_Tokens_letterOf h4) rfl mok_Tokens_letterOf lkM_Game_82 (d_Game_letterOf 11 19 (.invokestatic 82) 3 rfl) rfl (by decide) (Nat.le_of_ble_eq_true rfl) ?_
      refine Ak_goto 26 (d_Game_letterOf 12 22 (.goto 4) 3 rfl) rfl ?_
      cases h
      exact Ak_iret rfl (d_Game_letterOf 14 26 (.ireturn) 1 rfl)
theorem t_Game_beginningOf_L4 {S : ASh} {x0 : Int} (hO : isO S x0 1 = true) : ∀ (n : Nat) (V : ASt) (x2 x3 : Int) (r : Int) (V' : ASt), b_Game_beginningOf_L4 S x0 n V x2 x3 = some (r, V') → AWk m_Game_beginningOf 2 0 0 0 0 4 [some (aR x0), none, some (aI x2), some (aI x3)] [] S V (some (aI r)) S V' := by
  intro n
  induction n with
  | zero => intro V x2 x3 r V' h; cases h
  | succ n ih =>
    intro V x2 x3 r V' h
    replace ih : ∀ {V : ASt} {x2 x3 : Int} {r : Int} {V' : ASt}, b_Game_beginningOf_L4 S x0 n V x2 x3 = some (r, V') → AWk m_Game_beginningOf 2 0 0 0 0 4 [some (aR x0), none, some (aI x2), some (aI x3)] [] S V (some (aI r)) S V' := fun h => ih _ _ _ _ _ h
    rw [b_Game_beginningOf_L4] at h
    refine Ak_iload_n 5 3 (d_Game_beginningOf 4 4 (.iload_n 3) 1 rfl) rfl rfl rfl ?_
    refine Ak_aload_n 6 0 (d_Game_beginningOf 5 5 (.aload_n 0) 1 rfl) rfl rfl rfl ?_
    refine Ak_getI 9 1 hO clX1 (by decide) (Or.inl rfl) lkF_Game_15 (d_Game_beginningOf 6 6 (.getfield 15) 3 rfl) rfl ?_
    refine Ak_icmp_ge 34 12 (d_Game_beginningOf 7 9 (.if_icmp .ge 25) 3 rfl) rfl rfl (fun hc => ?_) (fun hc => ?_)
    · replace h := it_t hc h
      refine Ak_iload_n 35 2 (d_Game_beginningOf 22 34 (.iload_n 2) 1 rfl) rfl rfl rfl ?_
      cases h
      exact Ak_iret rfl (d_Game_beginningOf 23 35 (.ireturn) 1 rfl)
    · replace h := it_f hc h
      refine Ak_iload_n 13 2 (d_Game_beginningOf 8 12 (.iload_n 2) 1 rfl) rfl rfl rfl ?_
      refine Ak_aload_n 14 0 (d_Game_beginningOf 9 13 (.aload_n 0) 1 rfl) rfl rfl rfl ?_
      refine Ak_getF 17 7 hO clX1 (by decide) rfl lkF_Game_38 (d_Game_beginningOf 10 14 (.getfield 38) 3 rfl) rfl ?_
      refine Ak_iload_n 18 3 (d_Game_beginningOf 11 17 (.iload_n 3) 1 rfl) rfl rfl rfl ?_
      obtain ⟨ha1, h⟩ := gd_some h
      refine Ak_iaload 19 ha1 (d_Game_beginningOf 12 18 (.iaload) 1 rfl) rfl ?_
      refine Ak_aload_n 20 0 (d_Game_beginningOf 13 19 (.aload_n 0) 1 rfl) rfl rfl rfl ?_
      refine Ak_getF 23 14 hO clX1 (by decide) rfl lkF_Game_60 (d_Game_beginningOf 14 20 (.getfield 60) 3 rfl) rfl ?_
      refine Ak_iload_n 24 3 (d_Game_beginningOf 15 23 (.iload_n 3) 1 rfl) rfl rfl rfl ?_
      obtain ⟨ha2, h⟩ := gd_some h
      refine Ak_iaload 25 ha2 (d_Game_beginningOf 16 24 (.iaload) 1 rfl) rfl ?_
      refine Ak_imul 26 (d_Game_beginningOf 17 25 (.imul) 1 rfl) rfl ?_
      refine Ak_iadd 27 (d_Game_beginningOf 18 26 (.iadd) 1 rfl) rfl ?_
      refine Ak_istore_n 28 2 (d_Game_beginningOf 19 27 (.istore_n 2) 1 rfl) rfl rfl (by decide) ?_
      refine Ak_iinc 31 (d_Game_beginningOf 20 28 (.iinc 3 1) 3 rfl) rfl rfl (by decide) ?_
      refine Ak_goto 4 (d_Game_beginningOf 21 31 (.goto (-27)) 3 rfl) rfl ?_
      refine Ak_keep [true, false, true, true] ?_
      exact ih h
theorem c_Game_beginningOf {S : ASh} {V : ASt} {x0 x1 : Int} {r : Int} {V' : ASt} (h : f_Game_beginningOf S V x0 x1 = some (r, V')) : ACt m_Game_beginningOf 2 0 0 [(aR x0), (aI x1)] S V (some (aI r)) S V' := by
  unfold f_Game_beginningOf at h
  obtain ⟨hO, h⟩ := gd_some h
  refine ACt_of (plainFor_of_name rfl) rfl (Nat.le_of_ble_eq_true rfl) ?_
  show AWk m_Game_beginningOf 2 0 0 0 0 0 [some (aR x0), some (aI x1)] [] S V (some (aI r)) S V'
  refine Ak_iload_n 1 1 (d_Game_beginningOf 0 0 (.iload_n 1) 1 rfl) rfl rfl rfl ?_
  refine Ak_istore_n 2 2 (d_Game_beginningOf 1 1 (.istore_n 2) 1 rfl) rfl rfl (by decide) ?_
  refine Ak_iconst 3 (d_Game_beginningOf 2 2 (.iconst 0) 1 rfl) rfl (rk rfl) ?_
  refine Ak_istore_n 4 3 (d_Game_beginningOf 3 3 (.istore_n 3) 1 rfl) rfl rfl (by decide) ?_
  refine Ak_keep [true, false, true, true] ?_
  exact t_Game_beginningOf_L4 hO FU _ _ _ _ _ h
theorem t_Game_spotToLeave_J60 {S : ASh} {V : ASt} {x0 x3 s0 : Int} {r : Int} {V' : ASt} (hO : isO S x0 1 = true) (h : b_Game_spotToLeave_J60 S  V x0 x3 s0 = some (r, V')) : AWk m_Game_spotToLeave 3 0 0 0 0 60 [some (aR x0), none, none, some (aI x3)] [(aI s0)] S V (some (aI r)) S V' := by
  unfold b_Game_spotToLeave_J60 at h
  refine Ak_istore 62 (d_Game_spotToLeave 38 60 (.istore 4) 2 rfl) rfl (by decide) ?_
  refine Ak_iload 64 (d_Game_spotToLeave 39 62 (.iload 4) 2 rfl) rfl rfl ?_
  refine Ak_if_eq 79 67 (d_Game_spotToLeave 40 64 (.ifCond .eq 15) 3 rfl) rfl rfl (fun hc => ?_) (fun hc => ?_)
  · replace h := it_t hc h
    refine Ak_iconst 80 (d_Game_spotToLeave 47 79 (.iconst (-1)) 1 rfl) rfl (rk rfl) ?_
    cases h
    exact Ak_iret rfl (d_Game_spotToLeave 48 80 (.ireturn) 1 rfl)
  · replace h := it_f hc h
    refine Ak_iload_n 68 3 (d_Game_spotToLeave 41 67 (.iload_n 3) 1 rfl) rfl rfl rfl ?_
    refine Ak_aload_n 69 0 (d_Game_spotToLeave 42 68 (.aload_n 0) 1 rfl) rfl rfl rfl ?_
    refine Ak_getI 72 0 hO clX1 (by decide) (Or.inl rfl) lkF_Game_9 (d_Game_spotToLeave 43 69 (.getfield 9) 3 rfl) rfl ?_
    refine Ak_icmp_ge 79 75 (d_Game_spotToLeave 44 72 (.if_icmp .ge 7) 3 rfl) rfl rfl (fun hc => ?_) (fun hc => ?_)
    · replace h := it_t hc h
      refine Ak_iconst 80 (d_Game_spotToLeave 47 79 (.iconst (-1)) 1 rfl) rfl (rk rfl) ?_
      cases h
      exact Ak_iret rfl (d_Game_spotToLeave 48 80 (.ireturn) 1 rfl)
    · replace h := it_f hc h
      refine Ak_iload_n 76 3 (d_Game_spotToLeave 45 75 (.iload_n 3) 1 rfl) rfl rfl rfl ?_
      refine Ak_goto 80 (d_Game_spotToLeave 46 76 (.goto 4) 3 rfl) rfl ?_
      cases h
      exact Ak_iret rfl (d_Game_spotToLeave 48 80 (.ireturn) 1 rfl)
theorem c_Game_spotToLeave {S : ASh} {V : ASt} {x0 x1 x2 : Int} {r : Int} {V' : ASt} (h : f_Game_spotToLeave S V x0 x1 x2 = some (r, V')) : ACt m_Game_spotToLeave 3 0 0 [(aR x0), (aI x1), (aI x2)] S V (some (aI r)) S V' := by
  unfold f_Game_spotToLeave at h
  obtain ⟨hO, h⟩ := gd_some h
  refine ACt_of (plainFor_of_name rfl) rfl (Nat.le_of_ble_eq_true rfl) ?_
  show AWk m_Game_spotToLeave 3 0 0 0 0 0 [some (aR x0), some (aI x1), some (aI x2)] [] S V (some (aI r)) S V'
  refine Ak_aload_n 1 0 (d_Game_spotToLeave 0 0 (.aload_n 0) 1 rfl) rfl rfl rfl ?_
  refine Ak_iload_n 2 1 (d_Game_spotToLeave 1 1 (.iload_n 1) 1 rfl) rfl rfl rfl ?_
  obtain ⟨r1, V2, h3, h⟩ := bnd_some h
  refine Ak_cV1 5 2 (c_Game_isPosition h3) rfl hO clX1 rfl mok_Game_isPosition lkM_Game_88 (d_Game_spotToLeave 2 2 (.invokevirtual 88) 3 rfl) rfl (by decide) (Nat.le_of_ble_eq_true rfl) ?_
  refine Ak_if_eq 20 8 (d_Game_spotToLeave 3 5 (.ifCond .eq 15) 3 rfl) rfl rfl (fun hc => ?_) (fun hc => ?_)
  · replace h := it_t hc h
    refine Ak_iconst 21 (d_Game_spotToLeave 10 20 (.iconst (-1)) 1 rfl) rfl (rk rfl) ?_
    cases h
    exact Ak_iret rfl (d_Game_spotToLeave 11 21 (.ireturn) 1 rfl)
  · replace h := it_f hc h
    refine Ak_iload_n 9 2 (d_Game_spotToLeave 4 8 (.iload_n 2) 1 rfl) rfl rfl rfl ?_
    refine Ak_if_lt 20 12 (d_Game_spotToLeave 5 9 (.ifCond .lt 11) 3 rfl) rfl rfl (fun hc => ?_) (fun hc => ?_)
    · replace h := it_t hc h
      refine Ak_iconst 21 (d_Game_spotToLeave 10 20 (.iconst (-1)) 1 rfl) rfl (rk rfl) ?_
      cases h
      exact Ak_iret rfl (d_Game_spotToLeave 11 21 (.ireturn) 1 rfl)
    · replace h := it_f hc h
      refine Ak_iload_n 13 2 (d_Game_spotToLeave 6 12 (.iload_n 2) 1 rfl) rfl rfl rfl ?_
      refine Ak_aload_n 14 0 (d_Game_spotToLeave 7 13 (.aload_n 0) 1 rfl) rfl rfl rfl ?_
      refine Ak_getI 17 1 hO clX1 (by decide) (Or.inl rfl) lkF_Game_15 (d_Game_spotToLeave 8 14 (.getfield 15) 3 rfl) rfl ?_
      refine Ak_icmp_lt 22 20 (d_Game_spotToLeave 9 17 (.if_icmp .lt 5) 3 rfl) rfl rfl (fun hc => ?_) (fun hc => ?_)
      · replace h := it_t hc h
        refine Ak_aload_n 23 0 (d_Game_spotToLeave 12 22 (.aload_n 0) 1 rfl) rfl rfl rfl ?_
        refine Ak_getF 26 15 hO clX1 (by decide) rfl lkF_Game_63 (d_Game_spotToLeave 13 23 (.getfield 63) 3 rfl) rfl ?_
        refine Ak_iload_n 27 1 (d_Game_spotToLeave 14 26 (.iload_n 1) 1 rfl) rfl rfl rfl ?_
        refine Ak_iconst 28 (d_Game_spotToLeave 15 27 (.iconst 2) 1 rfl) rfl (rk rfl) ?_
        refine Ak_imul 29 (d_Game_spotToLeave 16 28 (.imul) 1 rfl) rfl ?_
        refine Ak_iload_n 30 2 (d_Game_spotToLeave 17 29 (.iload_n 2) 1 rfl) rfl rfl rfl ?_
        refine Ak_iadd 31 (d_Game_spotToLeave 18 30 (.iadd) 1 rfl) rfl ?_
        obtain ⟨ha4, h⟩ := gd_some h
        refine Ak_iaload 32 ha4 (d_Game_spotToLeave 19 31 (.iaload) 1 rfl) rfl ?_
        refine Ak_istore_n 33 3 (d_Game_spotToLeave 20 32 (.istore_n 3) 1 rfl) rfl rfl (by decide) ?_
        refine Ak_aload_n 34 0 (d_Game_spotToLeave 21 33 (.aload_n 0) 1 rfl) rfl rfl rfl ?_
        refine Ak_getF 37 8 hO clX1 (by decide) rfl lkF_Game_41 (d_Game_spotToLeave 22 34 (.getfield 41) 3 rfl) rfl ?_
        refine Ak_iload_n 38 2 (d_Game_spotToLeave 23 37 (.iload_n 2) 1 rfl) rfl rfl rfl ?_
        obtain ⟨ha5, h⟩ := gd_some h
        refine Ak_iaload 39 ha5 (d_Game_spotToLeave 24 38 (.iaload) 1 rfl) rfl ?_
        refine Ak_iconst 40 (d_Game_spotToLeave 25 39 (.iconst 2) 1 rfl) rfl (rk rfl) ?_
        refine Ak_icmp_eq 55 43 (d_Game_spotToLeave 26 40 (.if_icmp .eq 15) 3 rfl) rfl rfl (fun hc => ?_) (fun hc => ?_)
        · replace h := it_t hc h
          refine Ak_iconst 56 (d_Game_spotToLeave 35 55 (.iconst 1) 1 rfl) rfl (rk rfl) ?_
          refine Ak_goto 60 (d_Game_spotToLeave 36 56 (.goto 4) 3 rfl) rfl ?_
          refine Ak_keep [true, false, false, true] ?_
          exact t_Game_spotToLeave_J60 hO h
        · replace h := it_f hc h
          refine Ak_aload_n 44 0 (d_Game_spotToLeave 27 43 (.aload_n 0) 1 rfl) rfl rfl rfl ?_
          refine Ak_getF 47 8 hO clX1 (by decide) rfl lkF_Game_41 (d_Game_spotToLeave 28 44 (.getfield 41) 3 rfl) rfl ?_
          refine Ak_iload_n 48 2 (d_Game_spotToLeave 29 47 (.iload_n 2) 1 rfl) rfl rfl rfl ?_
          refine Ak_iaload 49 ha5 (d_Game_spotToLeave 30 48 (.iaload) 1 rfl) rfl ?_
          refine Ak_iload_n 50 1 (d_Game_spotToLeave 31 49 (.iload_n 1) 1 rfl) rfl rfl rfl ?_
          refine Ak_iconst 51 (d_Game_spotToLeave 32 50 (.iconst 1) 1 rfl) rfl (rk rfl) ?_
          refine Ak_iand 52 (d_Game_spotToLeave 33 51 (.iand) 1 rfl) rfl ?_
          refine Ak_icmp_ne 59 55 (d_Game_spotToLeave 34 52 (.if_icmp .ne 7) 3 rfl) rfl rfl (fun hc => ?_) (fun hc => ?_)
          · replace h := it_f hc h
            refine Ak_iconst 60 (d_Game_spotToLeave 37 59 (.iconst 0) 1 rfl) rfl (rk rfl) ?_
            refine Ak_keep [true, false, false, true] ?_
            exact t_Game_spotToLeave_J60 hO h
          · replace h := it_t hc h
            refine Ak_iconst 56 (d_Game_spotToLeave 35 55 (.iconst 1) 1 rfl) rfl (rk rfl) ?_
            refine Ak_goto 60 (d_Game_spotToLeave 36 56 (.goto 4) 3 rfl) rfl ?_
            refine Ak_keep [true, false, false, true] ?_
            exact t_Game_spotToLeave_J60 hO h
      · replace h := it_f hc h
        refine Ak_iconst 21 (d_Game_spotToLeave 10 20 (.iconst (-1)) 1 rfl) rfl (rk rfl) ?_
        cases h
        exact Ak_iret rfl (d_Game_spotToLeave 11 21 (.ireturn) 1 rfl)
theorem c_Game_fieldOrNone {S : ASh} {V : ASt} {x0 x1 : Int} {r : Int} {V' : ASt} (h : f_Game_fieldOrNone S V x0 x1 = some (r, V')) : ACt m_Game_fieldOrNone 2 0 0 [(aR x0), (aI x1)] S V (some (aI r)) S V' := by
  unfold f_Game_fieldOrNone at h
  obtain ⟨hO, h⟩ := gd_some h
  refine ACt_of (plainFor_of_name rfl) rfl (Nat.le_of_ble_eq_true rfl) ?_
  show AWk m_Game_fieldOrNone 2 0 0 0 0 0 [some (aR x0), some (aI x1)] [] S V (some (aI r)) S V'
  refine Ak_iload_n 1 1 (d_Game_fieldOrNone 0 0 (.iload_n 1) 1 rfl) rfl rfl rfl ?_
  refine Ak_if_lt 16 4 (d_Game_fieldOrNone 1 1 (.ifCond .lt 15) 3 rfl) rfl rfl (fun hc => ?_) (fun hc => ?_)
  · replace h := it_t hc h
    refine Ak_iconst 17 (d_Game_fieldOrNone 8 16 (.iconst (-1)) 1 rfl) rfl (rk rfl) ?_
    cases h
    exact Ak_iret rfl (d_Game_fieldOrNone 9 17 (.ireturn) 1 rfl)
  · replace h := it_f hc h
    refine Ak_iload_n 5 1 (d_Game_fieldOrNone 2 4 (.iload_n 1) 1 rfl) rfl rfl rfl ?_
    refine Ak_aload_n 6 0 (d_Game_fieldOrNone 3 5 (.aload_n 0) 1 rfl) rfl rfl rfl ?_
    refine Ak_getI 9 0 hO clX1 (by decide) (Or.inl rfl) lkF_Game_9 (d_Game_fieldOrNone 4 6 (.getfield 9) 3 rfl) rfl ?_
    refine Ak_icmp_ge 16 12 (d_Game_fieldOrNone 5 9 (.if_icmp .ge 7) 3 rfl) rfl rfl (fun hc => ?_) (fun hc => ?_)
    · replace h := it_t hc h
      refine Ak_iconst 17 (d_Game_fieldOrNone 8 16 (.iconst (-1)) 1 rfl) rfl (rk rfl) ?_
      cases h
      exact Ak_iret rfl (d_Game_fieldOrNone 9 17 (.ireturn) 1 rfl)
    · replace h := it_f hc h
      refine Ak_iload_n 13 1 (d_Game_fieldOrNone 6 12 (.iload_n 1) 1 rfl) rfl rfl rfl ?_
      refine Ak_goto 17 (d_Game_fieldOrNone 7 13 (.goto 4) 3 rfl) rfl ?_
      cases h
      exact Ak_iret rfl (d_Game_fieldOrNone 9 17 (.ireturn) 1 rfl)
theorem c_Game_positionBehind {S : ASh} {V : ASt} {x0 x1 x2 x3 : Int} {r : Int} {V' : ASt} (h : f_Game_positionBehind S V x0 x1 x2 x3 = some (r, V')) : ACt m_Game_positionBehind 3 0 0 [(aR x0), (aI x1), (aI x2), (aI x3)] S V (some (aI r)) S V' := by
  unfold f_Game_positionBehind at h
  obtain ⟨hO, h⟩ := gd_some h
  refine ACt_of (plainFor_of_name rfl) rfl (Nat.le_of_ble_eq_true rfl) ?_
  show AWk m_Game_positionBehind 3 0 0 0 0 0 [some (aR x0), some (aI x1), some (aI x2), some (aI x3)] [] S V (some (aI r)) S V'
  refine Ak_aload_n 1 0 (d_Game_positionBehind 0 0 (.aload_n 0) 1 rfl) rfl rfl rfl ?_
  refine Ak_iload_n 2 1 (d_Game_positionBehind 1 1 (.iload_n 1) 1 rfl) rfl rfl rfl ?_
  obtain ⟨r1, V2, h3, h⟩ := bnd_some h
  refine Ak_cV1 5 2 (c_Game_isPosition h3) rfl hO clX1 rfl mok_Game_isPosition lkM_Game_88 (d_Game_positionBehind 2 2 (.invokevirtual 88) 3 rfl) rfl (by decide) (Nat.le_of_ble_eq_true rfl) ?_
  refine Ak_if_eq 20 8 (d_Game_positionBehind 3 5 (.ifCond .eq 15) 3 rfl) rfl rfl (fun hc => ?_) (fun hc => ?_)
  · replace h := it_t hc h
    refine Ak_iload_n 21 1 (d_Game_positionBehind 10 20 (.iload_n 1) 1 rfl) rfl rfl rfl ?_
    cases h
    exact Ak_iret rfl (d_Game_positionBehind 11 21 (.ireturn) 1 rfl)
  · replace h := it_f hc h
    refine Ak_iload_n 9 2 (d_Game_positionBehind 4 8 (.iload_n 2) 1 rfl) rfl rfl rfl ?_
    refine Ak_if_lt 20 12 (d_Game_positionBehind 5 9 (.ifCond .lt 11) 3 rfl) rfl rfl (fun hc => ?_) (fun hc => ?_)
    · replace h := it_t hc h
      refine Ak_iload_n 21 1 (d_Game_positionBehind 10 20 (.iload_n 1) 1 rfl) rfl rfl rfl ?_
      cases h
      exact Ak_iret rfl (d_Game_positionBehind 11 21 (.ireturn) 1 rfl)
    · replace h := it_f hc h
      refine Ak_iload_n 13 2 (d_Game_positionBehind 6 12 (.iload_n 2) 1 rfl) rfl rfl rfl ?_
      refine Ak_aload_n 14 0 (d_Game_positionBehind 7 13 (.aload_n 0) 1 rfl) rfl rfl rfl ?_
      refine Ak_getI 17 1 hO clX1 (by decide) (Or.inl rfl) lkF_Game_15 (d_Game_positionBehind 8 14 (.getfield 15) 3 rfl) rfl ?_
      refine Ak_icmp_lt 22 20 (d_Game_positionBehind 9 17 (.if_icmp .lt 5) 3 rfl) rfl rfl (fun hc => ?_) (fun hc => ?_)
      · replace h := it_t hc h
        refine Ak_aload_n 23 0 (d_Game_positionBehind 12 22 (.aload_n 0) 1 rfl) rfl rfl rfl ?_
        refine Ak_getF 26 15 hO clX1 (by decide) rfl lkF_Game_63 (d_Game_positionBehind 13 23 (.getfield 63) 3 rfl) rfl ?_
        refine Ak_iload_n 27 1 (d_Game_positionBehind 14 26 (.iload_n 1) 1 rfl) rfl rfl rfl ?_
        refine Ak_iconst 28 (d_Game_positionBehind 15 27 (.iconst 2) 1 rfl) rfl (rk rfl) ?_
        refine Ak_imul 29 (d_Game_positionBehind 16 28 (.imul) 1 rfl) rfl ?_
        refine Ak_iload_n 30 2 (d_Game_positionBehind 17 29 (.iload_n 2) 1 rfl) rfl rfl rfl ?_
        refine Ak_iadd 31 (d_Game_positionBehind 18 30 (.iadd) 1 rfl) rfl ?_
        obtain ⟨ha4, h⟩ := gd_some h
        refine Ak_iaload 32 ha4 (d_Game_positionBehind 19 31 (.iaload) 1 rfl) rfl ?_
        refine Ak_istore 34 (d_Game_positionBehind 20 32 (.istore 4) 2 rfl) rfl (by decide) ?_
        refine Ak_iload_n 35 1 (d_Game_positionBehind 21 34 (.iload_n 1) 1 rfl) rfl rfl rfl ?_
        refine Ak_iload_n 36 3 (d_Game_positionBehind 22 35 (.iload_n 3) 1 rfl) rfl rfl rfl ?_
        refine Ak_iload 38 (d_Game_positionBehind 23 36 (.iload 4) 2 rfl) rfl rfl ?_
        refine Ak_isub 39 (d_Game_positionBehind 24 38 (.isub) 1 rfl) rfl ?_
        refine Ak_aload_n 40 0 (d_Game_positionBehind 25 39 (.aload_n 0) 1 rfl) rfl rfl rfl ?_
        refine Ak_getF 43 14 hO clX1 (by decide) rfl lkF_Game_60 (d_Game_positionBehind 26 40 (.getfield 60) 3 rfl) rfl ?_
        refine Ak_iload_n 44 2 (d_Game_positionBehind 27 43 (.iload_n 2) 1 rfl) rfl rfl rfl ?_
        obtain ⟨ha5, h⟩ := gd_some h
        refine Ak_iaload 45 ha5 (d_Game_positionBehind 28 44 (.iaload) 1 rfl) rfl ?_
        refine Ak_imul 46 (d_Game_positionBehind 29 45 (.imul) 1 rfl) rfl ?_
        refine Ak_iadd 47 (d_Game_positionBehind 30 46 (.iadd) 1 rfl) rfl ?_
        refine Ak_iconst 48 (d_Game_positionBehind 31 47 (.iconst 1) 1 rfl) rfl (rk rfl) ?_
        refine Ak_ixor 49 (d_Game_positionBehind 32 48 (.ixor) 1 rfl) rfl ?_
        cases h
        exact Ak_iret rfl (d_Game_positionBehind 33 49 (.ireturn) 1 rfl)
      · replace h := it_f hc h
        refine Ak_iload_n 21 1 (d_Game_positionBehind 10 20 (.iload_n 1) 1 rfl) rfl rfl rfl ?_
        cases h
        exact Ak_iret rfl (d_Game_positionBehind 11 21 (.ireturn) 1 rfl)
theorem c_Game_winnerWhenStuck {S : ASh} {V : ASt} {x0 x1 : Int} {r : Int} {V' : ASt} (h : f_Game_winnerWhenStuck S V x0 x1 = some (r, V')) : ACt m_Game_winnerWhenStuck 2 0 0 [(aR x0), (aI x1)] S V (some (aI r)) S V' := by
  unfold f_Game_winnerWhenStuck at h
  obtain ⟨hO, h⟩ := gd_some h
  refine ACt_of (plainFor_of_name rfl) rfl (Nat.le_of_ble_eq_true rfl) ?_
  show AWk m_Game_winnerWhenStuck 2 0 0 0 0 0 [some (aR x0), some (aI x1)] [] S V (some (aI r)) S V'
  refine Ak_aload_n 1 0 (d_Game_winnerWhenStuck 0 0 (.aload_n 0) 1 rfl) rfl rfl rfl ?_
  refine Ak_getI 4 4 hO clX1 (by decide) (Or.inl rfl) lkF_Game_24 (d_Game_winnerWhenStuck 1 1 (.getfield 24) 3 rfl) rfl ?_
  refine Ak_iconst 5 (d_Game_winnerWhenStuck 2 4 (.iconst 1) 1 rfl) rfl (rk rfl) ?_
  refine Ak_icmp_ne 10 8 (d_Game_winnerWhenStuck 3 5 (.if_icmp .ne 5) 3 rfl) rfl rfl (fun hc => ?_) (fun hc => ?_)
  · replace h := it_f hc h
    refine Ak_aload_n 11 0 (d_Game_winnerWhenStuck 6 10 (.aload_n 0) 1 rfl) rfl rfl rfl ?_
    refine Ak_getI 14 4 hO clX1 (by decide) (Or.inl rfl) lkF_Game_24 (d_Game_winnerWhenStuck 7 11 (.getfield 24) 3 rfl) rfl ?_
    refine Ak_iconst 15 (d_Game_winnerWhenStuck 8 14 (.iconst 2) 1 rfl) rfl (rk rfl) ?_
    refine Ak_icmp_ne 22 18 (d_Game_winnerWhenStuck 9 15 (.if_icmp .ne 7) 3 rfl) rfl rfl (fun hc => ?_) (fun hc => ?_)
    · replace h := it_f hc h
      refine Ak_iconst 23 (d_Game_winnerWhenStuck 12 22 (.iconst 1) 1 rfl) rfl (rk rfl) ?_
      refine Ak_iload_n 24 1 (d_Game_winnerWhenStuck 13 23 (.iload_n 1) 1 rfl) rfl rfl rfl ?_
      refine Ak_isub 25 (d_Game_winnerWhenStuck 14 24 (.isub) 1 rfl) rfl ?_
      cases h
      exact Ak_iret rfl (d_Game_winnerWhenStuck 15 25 (.ireturn) 1 rfl)
    · replace h := it_t hc h
      refine Ak_iload_n 19 1 (d_Game_winnerWhenStuck 10 18 (.iload_n 1) 1 rfl) rfl rfl rfl ?_
      refine Ak_goto 25 (d_Game_winnerWhenStuck 11 19 (.goto 6) 3 rfl) rfl ?_
      cases h
      exact Ak_iret rfl (d_Game_winnerWhenStuck 15 25 (.ireturn) 1 rfl)
  · replace h := it_t hc h
    refine Ak_iconst 9 (d_Game_winnerWhenStuck 4 8 (.iconst 2) 1 rfl) rfl (rk rfl) ?_
    cases h
    exact Ak_iret rfl (d_Game_winnerWhenStuck 5 9 (.ireturn) 1 rfl)
theorem c_Math_floorDiv {S : ASh} {V : ASt} {x0 x2 : Int} {r : Int} {V' : ASt} (h : f_Math_floorDiv S V x0 x2 = some (r, V')) : ACt m_Math_floorDiv 2 0 0 [(aL x0), (aL x2)] S V (some (aL r)) S V' := by
  unfold f_Math_floorDiv at h
  refine ACt_of (by decide +kernel) rfl (Nat.le_of_ble_eq_true rfl) ?_
  show AWk m_Math_floorDiv 2 0 0 0 0 0 [some (aL x0), none, some (aL x2), none] [] S V (some (aL r)) S V'
  refine Ak_lload_n 1 0 (d_Math_floorDiv 0 0 (.lload_n 0) 1 rfl) rfl rfl rfl ?_
  refine Ak_lload_n 2 2 (d_Math_floorDiv 1 1 (.lload_n 2) 1 rfl) rfl rfl rfl ?_
  obtain ⟨hz1, h⟩ := gd_some h
  refine Ak_ldiv 3 (d_Math_floorDiv 2 2 (.ldiv) 1 rfl) rfl (dec_t hz1) ?_
  refine Ak_lstore 5 (d_Math_floorDiv 3 3 (.lstore 4) 2 rfl) rfl (by decide) ?_
  refine Ak_lload_n 6 0 (d_Math_floorDiv 4 5 (.lload_n 0) 1 rfl) rfl rfl rfl ?_
  refine Ak_lload_n 7 2 (d_Math_floorDiv 5 6 (.lload_n 2) 1 rfl) rfl rfl rfl ?_
  refine Ak_lxor 8 (d_Math_floorDiv 6 7 (.lxor) 1 rfl) rfl ?_
  refine Ak_lconst 9 0 (d_Math_floorDiv 7 8 (.lconst 0) 1 rfl) rfl rfl (rkL rfl) ?_
  refine Ak_lcmp 10 (d_Math_floorDiv 8 9 (.lcmp) 1 rfl) rfl ?_
  refine Ak_if_ge 27 13 (d_Math_floorDiv 9 10 (.ifCond .ge 17) 3 rfl) rfl rfl (fun hc => ?_) (fun hc => ?_)
  · replace h := it_t hc h
    refine Ak_lload 29 (d_Math_floorDiv 20 27 (.lload 4) 2 rfl) rfl rfl ?_
    cases h
    exact Ak_lret rfl (d_Math_floorDiv 21 29 (.lreturn) 1 rfl)
  · replace h := it_f hc h
    refine Ak_lload 15 (d_Math_floorDiv 10 13 (.lload 4) 2 rfl) rfl rfl ?_
    refine Ak_lload_n 16 2 (d_Math_floorDiv 11 15 (.lload_n 2) 1 rfl) rfl rfl rfl ?_
    refine Ak_lmul 17 (d_Math_floorDiv 12 16 (.lmul) 1 rfl) rfl ?_
    refine Ak_lload_n 18 0 (d_Math_floorDiv 13 17 (.lload_n 0) 1 rfl) rfl rfl rfl ?_
    refine Ak_lcmp 19 (d_Math_floorDiv 14 18 (.lcmp) 1 rfl) rfl ?_
    refine Ak_if_eq 27 22 (d_Math_floorDiv 15 19 (.ifCond .eq 8) 3 rfl) rfl rfl (fun hc => ?_) (fun hc => ?_)
    · replace h := it_t hc h
      refine Ak_lload 29 (d_Math_floorDiv 20 27 (.lload 4) 2 rfl) rfl rfl ?_
      cases h
      exact Ak_lret rfl (d_Math_floorDiv 21 29 (.lreturn) 1 rfl)
    · replace h := it_f hc h
      refine Ak_lload 24 (d_Math_floorDiv 16 22 (.lload 4) 2 rfl) rfl rfl ?_
      refine Ak_lconst 25 1 (d_Math_floorDiv 17 24 (.lconst 1) 1 rfl) rfl rfl (rkL rfl) ?_
      refine Ak_lsub 26 (d_Math_floorDiv 18 25 (.lsub) 1 rfl) rfl ?_
      cases h
      exact Ak_lret rfl (d_Math_floorDiv 19 26 (.lreturn) 1 rfl)
theorem c_Math_floorMod {S : ASh} {V : ASt} {x0 x2 : Int} {r : Int} {V' : ASt} (h : f_Math_floorMod S V x0 x2 = some (r, V')) : ACt m_Math_floorMod 2 0 0 [(aL x0), (aL x2)] S V (some (aL r)) S V' := by
  unfold f_Math_floorMod at h
  refine ACt_of (by decide +kernel) rfl (Nat.le_of_ble_eq_true rfl) ?_
  show AWk m_Math_floorMod 2 0 0 0 0 0 [some (aL x0), none, some (aL x2), none] [] S V (some (aL r)) S V'
  refine Ak_lload_n 1 0 (d_Math_floorMod 0 0 (.lload_n 0) 1 rfl) rfl rfl rfl ?_
  refine Ak_lload_n 2 2 (d_Math_floorMod 1 1 (.lload_n 2) 1 rfl) rfl rfl rfl ?_
  obtain ⟨hz1, h⟩ := gd_some h
  refine Ak_lrem 3 (d_Math_floorMod 2 2 (.lrem) 1 rfl) rfl (dec_t hz1) ?_
  refine Ak_lstore 5 (d_Math_floorMod 3 3 (.lstore 4) 2 rfl) rfl (by decide) ?_
  refine Ak_lload_n 6 0 (d_Math_floorMod 4 5 (.lload_n 0) 1 rfl) rfl rfl rfl ?_
  refine Ak_lload_n 7 2 (d_Math_floorMod 5 6 (.lload_n 2) 1 rfl) rfl rfl rfl ?_
  refine Ak_lxor 8 (d_Math_floorMod 6 7 (.lxor) 1 rfl) rfl ?_
  refine Ak_lconst 9 0 (d_Math_floorMod 7 8 (.lconst 0) 1 rfl) rfl rfl (rkL rfl) ?_
  refine Ak_lcmp 10 (d_Math_floorMod 8 9 (.lcmp) 1 rfl) rfl ?_
  refine Ak_if_ge 25 13 (d_Math_floorMod 9 10 (.ifCond .ge 15) 3 rfl) rfl rfl (fun hc => ?_) (fun hc => ?_)
  · replace h := it_t hc h
    refine Ak_lload 27 (d_Math_floorMod 18 25 (.lload 4) 2 rfl) rfl rfl ?_
    cases h
    exact Ak_lret rfl (d_Math_floorMod 19 27 (.lreturn) 1 rfl)
  · replace h := it_f hc h
    refine Ak_lload 15 (d_Math_floorMod 10 13 (.lload 4) 2 rfl) rfl rfl ?_
    refine Ak_lconst 16 0 (d_Math_floorMod 11 15 (.lconst 0) 1 rfl) rfl rfl (rkL rfl) ?_
    refine Ak_lcmp 17 (d_Math_floorMod 12 16 (.lcmp) 1 rfl) rfl ?_
    refine Ak_if_eq 25 20 (d_Math_floorMod 13 17 (.ifCond .eq 8) 3 rfl) rfl rfl (fun hc => ?_) (fun hc => ?_)
    · replace h := it_t hc h
      refine Ak_lload 27 (d_Math_floorMod 18 25 (.lload 4) 2 rfl) rfl rfl ?_
      cases h
      exact Ak_lret rfl (d_Math_floorMod 19 27 (.lreturn) 1 rfl)
    · replace h := it_f hc h
      refine Ak_lload 22 (d_Math_floorMod 14 20 (.lload 4) 2 rfl) rfl rfl ?_
      refine Ak_lload_n 23 2 (d_Math_floorMod 15 22 (.lload_n 2) 1 rfl) rfl rfl rfl ?_
      refine Ak_ladd 24 (d_Math_floorMod 16 23 (.ladd) 1 rfl) rfl ?_
      cases h
      exact Ak_lret rfl (d_Math_floorMod 17 24 (.lreturn) 1 rfl)
theorem c_Math_min_JJ {S : ASh} {V : ASt} {x0 x2 : Int} {r : Int} {V' : ASt} (h : f_Math_min_JJ S V x0 x2 = some (r, V')) : ACt m_Math_min_JJ 2 0 0 [(aL x0), (aL x2)] S V (some (aL r)) S V' := by
  unfold f_Math_min_JJ at h
  refine ACt_of (by decide +kernel) rfl (Nat.le_of_ble_eq_true rfl) ?_
  show AWk m_Math_min_JJ 2 0 0 0 0 0 [some (aL x0), none, some (aL x2), none] [] S V (some (aL r)) S V'
  refine Ak_lload_n 1 0 (d_Math_min_JJ 0 0 (.lload_n 0) 1 rfl) rfl rfl rfl ?_
  refine Ak_lload_n 2 2 (d_Math_min_JJ 1 1 (.lload_n 2) 1 rfl) rfl rfl rfl ?_
  refine Ak_lcmp 3 (d_Math_min_JJ 2 2 (.lcmp) 1 rfl) rfl ?_
  refine Ak_if_gt 10 6 (d_Math_min_JJ 3 3 (.ifCond .gt 7) 3 rfl) rfl rfl (fun hc => ?_) (fun hc => ?_)
  · replace h := it_t hc h
    refine Ak_lload_n 11 2 (d_Math_min_JJ 6 10 (.lload_n 2) 1 rfl) rfl rfl rfl ?_
    cases h
    exact Ak_lret rfl (d_Math_min_JJ 7 11 (.lreturn) 1 rfl)
  · replace h := it_f hc h
    refine Ak_lload_n 7 0 (d_Math_min_JJ 4 6 (.lload_n 0) 1 rfl) rfl rfl rfl ?_
    refine Ak_goto 11 (d_Math_min_JJ 5 7 (.goto 4) 3 rfl) rfl ?_
    cases h
    exact Ak_lret rfl (d_Math_min_JJ 7 11 (.lreturn) 1 rfl)
theorem c_Math_max_JJ {S : ASh} {V : ASt} {x0 x2 : Int} {r : Int} {V' : ASt} (h : f_Math_max_JJ S V x0 x2 = some (r, V')) : ACt m_Math_max_JJ 2 0 0 [(aL x0), (aL x2)] S V (some (aL r)) S V' := by
  unfold f_Math_max_JJ at h
  refine ACt_of (by decide +kernel) rfl (Nat.le_of_ble_eq_true rfl) ?_
  show AWk m_Math_max_JJ 2 0 0 0 0 0 [some (aL x0), none, some (aL x2), none] [] S V (some (aL r)) S V'
  refine Ak_lload_n 1 0 (d_Math_max_JJ 0 0 (.lload_n 0) 1 rfl) rfl rfl rfl ?_
  refine Ak_lload_n 2 2 (d_Math_max_JJ 1 1 (.lload_n 2) 1 rfl) rfl rfl rfl ?_
  refine Ak_lcmp 3 (d_Math_max_JJ 2 2 (.lcmp) 1 rfl) rfl ?_
  refine Ak_if_lt 10 6 (d_Math_max_JJ 3 3 (.ifCond .lt 7) 3 rfl) rfl rfl (fun hc => ?_) (fun hc => ?_)
  · replace h := it_t hc h
    refine Ak_lload_n 11 2 (d_Math_max_JJ 6 10 (.lload_n 2) 1 rfl) rfl rfl rfl ?_
    cases h
    exact Ak_lret rfl (d_Math_max_JJ 7 11 (.lreturn) 1 rfl)
  · replace h := it_f hc h
    refine Ak_lload_n 7 0 (d_Math_max_JJ 4 6 (.lload_n 0) 1 rfl) rfl rfl rfl ?_
    refine Ak_goto 11 (d_Math_max_JJ 5 7 (.goto 4) 3 rfl) rfl ?_
    cases h
    exact Ak_lret rfl (d_Math_max_JJ 7 11 (.lreturn) 1 rfl)
theorem t_Tests_combine_J209 {S : ASh} {V : ASt} {x5 : Int} {r : Int} {V' : ASt} (h : b_Tests_combine_J209 S  V x5 = some (r, V')) : AWk m_Tests_combine 3 0 0 0 0 209 [none, none, none, none, none, some (aL x5)] [] S V (some (aI r)) S V' := by
  unfold b_Tests_combine_J209 at h
  refine Ak_ldc2 212 (-1000000) (d_Tests_combine 87 209 (.ldc2_w 47) 3 rfl) rfl lkJ_Tests_47 (rkL rfl) ?_
  refine Ak_ldc2 215 1000000 (d_Tests_combine 88 212 (.ldc2_w 49) 3 rfl) rfl lkJ_Tests_49 (rkL rfl) ?_
  refine Ak_lload 217 (d_Tests_combine 89 215 (.lload 5) 2 rfl) rfl rfl ?_
  obtain ⟨r1, V2, h3, h⟩ := bnd_some h
  refine Ak_cS1 220 2 (c_Math_min_JJ h3) rfl mok_Math_min_JJ lkM_Tests_41 (d_Tests_combine 90 217 (.invokestatic 41) 3 rfl) rfl (by decide) (Nat.le_of_ble_eq_true rfl) ?_
  obtain ⟨r4, V5, h6, h⟩ := bnd_some h
  refine Ak_cS1 223 2 (c_Math_max_JJ h6) rfl mok_Math_max_JJ lkM_Tests_44 (d_Tests_combine 91 220 (.invokestatic 44) 3 rfl) rfl (by decide) (Nat.le_of_ble_eq_true rfl) ?_
  refine Ak_l2i 224 (d_Tests_combine 92 223 (.l2i) 1 rfl) rfl ?_
  cases h
  exact Ak_iret rfl (d_Tests_combine 93 224 (.ireturn) 1 rfl)
theorem c_Tests_combine {S : ASh} {V : ASt} {x0 x1 x3 : Int} {r : Int} {V' : ASt} (h : f_Tests_combine S V x0 x1 x3 = some (r, V')) : ACt m_Tests_combine 3 0 0 [(aI x0), (aL x1), (aL x3)] S V (some (aI r)) S V' := by
  unfold f_Tests_combine at h
  refine ACt_of (plainFor_of_name rfl) rfl (Nat.le_of_ble_eq_true rfl) ?_
  show AWk m_Tests_combine 3 0 0 0 0 0 [some (aI x0), some (aL x1), none, some (aL x3), none] [] S V (some (aI r)) S V'
  refine Ak_lconst 1 0 (d_Tests_combine 0 0 (.lconst 0) 1 rfl) rfl rfl (rkL rfl) ?_
  refine Ak_lstore 3 (d_Tests_combine 1 1 (.lstore 5) 2 rfl) rfl (by decide) ?_
  refine Ak_iload_n 4 0 (d_Tests_combine 2 3 (.iload_n 0) 1 rfl) rfl rfl rfl ?_
  by_cases hc7 : x0 = (-12)
  · replace h := it_t hc7 h
    refine Ak_tableIn 196 (-12) hc7 (d_Tests_combine 3 4 (.tableswitch 200 (-12) (-2) #[192, 176, 160, 144, 134, 124, 104, 84, 76, 68, 60]) 60 rfl) (by decide) (by decide) rfl rfl ?_
    refine Ak_lload_n 197 1 (d_Tests_combine 78 196 (.lload_n 1) 1 rfl) rfl rfl rfl ?_
    refine Ak_lload_n 198 3 (d_Tests_combine 79 197 (.lload_n 3) 1 rfl) rfl rfl rfl ?_
    refine Ak_land 199 (d_Tests_combine 80 198 (.land) 1 rfl) rfl ?_
    refine Ak_lstore 201 (d_Tests_combine 81 199 (.lstore 5) 2 rfl) rfl (by decide) ?_
    refine Ak_goto 209 (d_Tests_combine 82 201 (.goto 8) 3 rfl) rfl ?_
    refine Ak_keep [false, false, false, false, false, true] ?_
    exact t_Tests_combine_J209  h
  · replace h := it_f hc7 h
    by_cases hc8 : x0 = (-11)
    · replace h := it_t hc8 h
      refine Ak_tableIn 180 (-11) hc8 (d_Tests_combine 3 4 (.tableswitch 200 (-12) (-2) #[192, 176, 160, 144, 134, 124, 104, 84, 76, 68, 60]) 60 rfl) (by decide) (by decide) rfl rfl ?_
      refine Ak_lload_n 181 1 (d_Tests_combine 69 180 (.lload_n 1) 1 rfl) rfl rfl rfl ?_
      refine Ak_lload_n 182 3 (d_Tests_combine 70 181 (.lload_n 3) 1 rfl) rfl rfl rfl ?_
      refine Ak_lcmp 183 (d_Tests_combine 71 182 (.lcmp) 1 rfl) rfl ?_
      refine Ak_if_ne 190 186 (d_Tests_combine 72 183 (.ifCond .ne 7) 3 rfl) rfl rfl (fun hc => ?_) (fun hc => ?_)
      · replace h := it_f hc h
        refine Ak_lconst 191 0 (d_Tests_combine 75 190 (.lconst 0) 1 rfl) rfl rfl (rkL rfl) ?_
        refine Ak_lstore 193 (d_Tests_combine 76 191 (.lstore 5) 2 rfl) rfl (by decide) ?_
        refine Ak_goto 209 (d_Tests_combine 77 193 (.goto 16) 3 rfl) rfl ?_
        refine Ak_keep [false, false, false, false, false, true] ?_
        exact t_Tests_combine_J209  h
      · replace h := it_t hc h
        refine Ak_lconst 187 1 (d_Tests_combine 73 186 (.lconst 1) 1 rfl) rfl rfl (rkL rfl) ?_
        refine Ak_goto 191 (d_Tests_combine 74 187 (.goto 4) 3 rfl) rfl ?_
        refine Ak_lstore 193 (d_Tests_combine 76 191 (.lstore 5) 2 rfl) rfl (by decide) ?_
        refine Ak_goto 209 (d_Tests_combine 77 193 (.goto 16) 3 rfl) rfl ?_
        refine Ak_keep [false, false, false, false, false, true] ?_
        exact t_Tests_combine_J209  h
    · replace h := it_f hc8 h
      by_cases hc9 : x0 = (-10)
      · replace h := it_t hc9 h
        refine Ak_tableIn 164 (-10) hc9 (d_Tests_combine 3 4 (.tableswitch 200 (-12) (-2) #[192, 176, 160, 144, 134, 124, 104, 84, 76, 68, 60]) 60 rfl) (by decide) (by decide) rfl rfl ?_
        refine Ak_lload_n 165 1 (d_Tests_combine 60 164 (.lload_n 1) 1 rfl) rfl rfl rfl ?_
        refine Ak_lload_n 166 3 (d_Tests_combine 61 165 (.lload_n 3) 1 rfl) rfl rfl rfl ?_
        refine Ak_lcmp 167 (d_Tests_combine 62 166 (.lcmp) 1 rfl) rfl ?_
        refine Ak_if_le 174 170 (d_Tests_combine 63 167 (.ifCond .le 7) 3 rfl) rfl rfl (fun hc => ?_) (fun hc => ?_)
        · replace h := it_t hc h
          refine Ak_lconst 175 0 (d_Tests_combine 66 174 (.lconst 0) 1 rfl) rfl rfl (rkL rfl) ?_
          refine Ak_lstore 177 (d_Tests_combine 67 175 (.lstore 5) 2 rfl) rfl (by decide) ?_
          refine Ak_goto 209 (d_Tests_combine 68 177 (.goto 32) 3 rfl) rfl ?_
          refine Ak_keep [false, false, false, false, false, true] ?_
          exact t_Tests_combine_J209  h
        · replace h := it_f hc h
          refine Ak_lconst 171 1 (d_Tests_combine 64 170 (.lconst 1) 1 rfl) rfl rfl (rkL rfl) ?_
          refine Ak_goto 175 (d_Tests_combine 65 171 (.goto 4) 3 rfl) rfl ?_
          refine Ak_lstore 177 (d_Tests_combine 67 175 (.lstore 5) 2 rfl) rfl (by decide) ?_
          refine Ak_goto 209 (d_Tests_combine 68 177 (.goto 32) 3 rfl) rfl ?_
          refine Ak_keep [false, false, false, false, false, true] ?_
          exact t_Tests_combine_J209  h
      · replace h := it_f hc9 h
        by_cases hc10 : x0 = (-9)
        · replace h := it_t hc10 h
          refine Ak_tableIn 148 (-9) hc10 (d_Tests_combine 3 4 (.tableswitch 200 (-12) (-2) #[192, 176, 160, 144, 134, 124, 104, 84, 76, 68, 60]) 60 rfl) (by decide) (by decide) rfl rfl ?_
          refine Ak_lload_n 149 1 (d_Tests_combine 51 148 (.lload_n 1) 1 rfl) rfl rfl rfl ?_
          refine Ak_lload_n 150 3 (d_Tests_combine 52 149 (.lload_n 3) 1 rfl) rfl rfl rfl ?_
          refine Ak_lcmp 151 (d_Tests_combine 53 150 (.lcmp) 1 rfl) rfl ?_
          refine Ak_if_ge 158 154 (d_Tests_combine 54 151 (.ifCond .ge 7) 3 rfl) rfl rfl (fun hc => ?_) (fun hc => ?_)
          · replace h := it_t hc h
            refine Ak_lconst 159 0 (d_Tests_combine 57 158 (.lconst 0) 1 rfl) rfl rfl (rkL rfl) ?_
            refine Ak_lstore 161 (d_Tests_combine 58 159 (.lstore 5) 2 rfl) rfl (by decide) ?_
            refine Ak_goto 209 (d_Tests_combine 59 161 (.goto 48) 3 rfl) rfl ?_
            refine Ak_keep [false, false, false, false, false, true] ?_
            exact t_Tests_combine_J209  h
          · replace h := it_f hc h
            refine Ak_lconst 155 1 (d_Tests_combine 55 154 (.lconst 1) 1 rfl) rfl rfl (rkL rfl) ?_
            refine Ak_goto 159 (d_Tests_combine 56 155 (.goto 4) 3 rfl) rfl ?_
            refine Ak_lstore 161 (d_Tests_combine 58 159 (.lstore 5) 2 rfl) rfl (by decide) ?_
            refine Ak_goto 209 (d_Tests_combine 59 161 (.goto 48) 3 rfl) rfl ?_
            refine Ak_keep [false, false, false, false, false, true] ?_
            exact t_Tests_combine_J209  h
        · replace h := it_f hc10 h
          by_cases hc11 : x0 = (-8)
          · replace h := it_t hc11 h
            refine Ak_tableIn 138 (-8) hc11 (d_Tests_combine 3 4 (.tableswitch 200 (-12) (-2) #[192, 176, 160, 144, 134, 124, 104, 84, 76, 68, 60]) 60 rfl) (by decide) (by decide) rfl rfl ?_
            refine Ak_lload_n 139 1 (d_Tests_combine 46 138 (.lload_n 1) 1 rfl) rfl rfl rfl ?_
            refine Ak_lload_n 140 3 (d_Tests_combine 47 139 (.lload_n 3) 1 rfl) rfl rfl rfl ?_
            obtain ⟨r12, V13, h14, h⟩ := bnd_some h
            refine Ak_cS1 143 2 (c_Math_max_JJ h14) rfl mok_Math_max_JJ lkM_Tests_44 (d_Tests_combine 48 140 (.invokestatic 44) 3 rfl) rfl (by decide) (Nat.le_of_ble_eq_true rfl) ?_
            refine Ak_lstore 145 (d_Tests_combine 49 143 (.lstore 5) 2 rfl) rfl (by decide) ?_
            refine Ak_goto 209 (d_Tests_combine 50 145 (.goto 64) 3 rfl) rfl ?_
            refine Ak_keep [false, false, false, false, false, true] ?_
            exact t_Tests_combine_J209  h
          · replace h := it_f hc11 h
            by_cases hc15 : x0 = (-7)
            · replace h := it_t hc15 h
              refine Ak_tableIn 128 (-7) hc15 (d_Tests_combine 3 4 (.tableswitch 200 (-12) (-2) #[192, 176, 160, 144, 134, 124, 104, 84, 76, 68, 60]) 60 rfl) (by decide) (by decide) rfl rfl ?_
              refine Ak_lload_n 129 1 (d_Tests_combine 41 128 (.lload_n 1) 1 rfl) rfl rfl rfl ?_
              refine Ak_lload_n 130 3 (d_Tests_combine 42 129 (.lload_n 3) 1 rfl) rfl rfl rfl ?_
              obtain ⟨r16, V17, h18, h⟩ := bnd_some h
              refine Ak_cS1 133 2 (c_Math_min_JJ h18) rfl mok_Math_min_JJ lkM_Tests_41 (d_Tests_combine 43 130 (.invokestatic 41) 3 rfl) rfl (by decide) (Nat.le_of_ble_eq_true rfl) ?_
              refine Ak_lstore 135 (d_Tests_combine 44 133 (.lstore 5) 2 rfl) rfl (by decide) ?_
              refine Ak_goto 209 (d_Tests_combine 45 135 (.goto 74) 3 rfl) rfl ?_
              refine Ak_keep [false, false, false, false, false, true] ?_
              exact t_Tests_combine_J209  h
            · replace h := it_f hc15 h
              by_cases hc19 : x0 = (-6)
              · replace h := it_t hc19 h
                refine Ak_tableIn 108 (-6) hc19 (d_Tests_combine 3 4 (.tableswitch 200 (-12) (-2) #[192, 176, 160, 144, 134, 124, 104, 84, 76, 68, 60]) 60 rfl) (by decide) (by decide) rfl rfl ?_
                refine Ak_lload_n 109 3 (d_Tests_combine 30 108 (.lload_n 3) 1 rfl) rfl rfl rfl ?_
                refine Ak_lconst 110 0 (d_Tests_combine 31 109 (.lconst 0) 1 rfl) rfl rfl (rkL rfl) ?_
                refine Ak_lcmp 111 (d_Tests_combine 32 110 (.lcmp) 1 rfl) rfl ?_
                refine Ak_if_ne 118 114 (d_Tests_combine 33 111 (.ifCond .ne 7) 3 rfl) rfl rfl (fun hc => ?_) (fun hc => ?_)
                · replace h := it_f hc h
                  refine Ak_lload_n 119 1 (d_Tests_combine 36 118 (.lload_n 1) 1 rfl) rfl rfl rfl ?_
                  refine Ak_lload_n 120 3 (d_Tests_combine 37 119 (.lload_n 3) 1 rfl) rfl rfl rfl ?_
                  obtain ⟨r20, V21, h22, h⟩ := bnd_some h
                  refine Ak_cS1 123 2 (c_Math_floorMod h22) rfl mok_Math_floorMod lkM_Tests_38 (d_Tests_combine 38 120 (.invokestatic 38) 3 rfl) rfl (by decide) (Nat.le_of_ble_eq_true rfl) ?_
                  refine Ak_lstore 125 (d_Tests_combine 39 123 (.lstore 5) 2 rfl) rfl (by decide) ?_
                  refine Ak_goto 209 (d_Tests_combine 40 125 (.goto 84) 3 rfl) rfl ?_
                  refine Ak_keep [false, false, false, false, false, true] ?_
                  exact t_Tests_combine_J209  h
                · replace h := it_t hc h
                  refine Ak_lconst 115 0 (d_Tests_combine 34 114 (.lconst 0) 1 rfl) rfl rfl (rkL rfl) ?_
                  refine Ak_goto 123 (d_Tests_combine 35 115 (.goto 8) 3 rfl) rfl ?_
                  refine Ak_lstore 125 (d_Tests_combine 39 123 (.lstore 5) 2 rfl) rfl (by decide) ?_
                  refine Ak_goto 209 (d_Tests_combine 40 125 (.goto 84) 3 rfl) rfl ?_
                  refine Ak_keep [false, false, false, false, false, true] ?_
                  exact t_Tests_combine_J209  h
              · replace h := it_f hc19 h
                by_cases hc23 : x0 = (-5)
                · replace h := it_t hc23 h
                  refine Ak_tableIn 88 (-5) hc23 (d_Tests_combine 3 4 (.tableswitch 200 (-12) (-2) #[192, 176, 160, 144, 134, 124, 104, 84, 76, 68, 60]) 60 rfl) (by decide) (by decide) rfl rfl ?_
                  refine Ak_lload_n 89 3 (d_Tests_combine 19 88 (.lload_n 3) 1 rfl) rfl rfl rfl ?_
                  refine Ak_lconst 90 0 (d_Tests_combine 20 89 (.lconst 0) 1 rfl) rfl rfl (rkL rfl) ?_
                  refine Ak_lcmp 91 (d_Tests_combine 21 90 (.lcmp) 1 rfl) rfl ?_
                  refine Ak_if_ne 98 94 (d_Tests_combine 22 91 (.ifCond .ne 7) 3 rfl) rfl rfl (fun hc => ?_) (fun hc => ?_)
                  · replace h := it_f hc h
                    refine Ak_lload_n 99 1 (d_Tests_combine 25 98 (.lload_n 1) 1 rfl) rfl rfl rfl ?_
                    refine Ak_lload_n 100 3 (d_Tests_combine 26 99 (.lload_n 3) 1 rfl) rfl rfl rfl ?_
                    obtain ⟨r24, V25, h26, h⟩ := bnd_some h
                    refine Ak_cS1 103 2 (c_Math_floorDiv h26) rfl mok_Math_floorDiv lkM_Tests_32 (d_Tests_combine 27 100 (.invokestatic 32) 3 rfl) rfl (by decide) (Nat.le_of_ble_eq_true rfl) ?_
                    refine Ak_lstore 105 (d_Tests_combine 28 103 (.lstore 5) 2 rfl) rfl (by decide) ?_
                    refine Ak_goto 209 (d_Tests_combine 29 105 (.goto 104) 3 rfl) rfl ?_
                    refine Ak_keep [false, false, false, false, false, true] ?_
                    exact t_Tests_combine_J209  h
                  · replace h := it_t hc h
                    refine Ak_lconst 95 0 (d_Tests_combine 23 94 (.lconst 0) 1 rfl) rfl rfl (rkL rfl) ?_
                    refine Ak_goto 103 (d_Tests_combine 24 95 (.goto 8) 3 rfl) rfl ?_
                    refine Ak_lstore 105 (d_Tests_combine 28 103 (.lstore 5) 2 rfl) rfl (by decide) ?_
                    refine Ak_goto 209 (d_Tests_combine 29 105 (.goto 104) 3 rfl) rfl ?_
                    refine Ak_keep [false, false, false, false, false, true] ?_
                    exact t_Tests_combine_J209  h
                · replace h := it_f hc23 h
                  by_cases hc27 : x0 = (-4)
                  · replace h := it_t hc27 h
                    refine Ak_tableIn 80 (-4) hc27 (d_Tests_combine 3 4 (.tableswitch 200 (-12) (-2) #[192, 176, 160, 144, 134, 124, 104, 84, 76, 68, 60]) 60 rfl) (by decide) (by decide) rfl rfl ?_
                    refine Ak_lload_n 81 1 (d_Tests_combine 14 80 (.lload_n 1) 1 rfl) rfl rfl rfl ?_
                    refine Ak_lload_n 82 3 (d_Tests_combine 15 81 (.lload_n 3) 1 rfl) rfl rfl rfl ?_
                    refine Ak_lmul 83 (d_Tests_combine 16 82 (.lmul) 1 rfl) rfl ?_
                    refine Ak_lstore 85 (d_Tests_combine 17 83 (.lstore 5) 2 rfl) rfl (by decide) ?_
                    refine Ak_goto 209 (d_Tests_combine 18 85 (.goto 124) 3 rfl) rfl ?_
                    refine Ak_keep [false, false, false, false, false, true] ?_
                    exact t_Tests_combine_J209  h
                  · replace h := it_f hc27 h
                    by_cases hc28 : x0 = (-3)
                    · replace h := it_t hc28 h
                      refine Ak_tableIn 72 (-3) hc28 (d_Tests_combine 3 4 (.tableswitch 200 (-12) (-2) #[192, 176, 160, 144, 134, 124, 104, 84, 76, 68, 60]) 60 rfl) (by decide) (by decide) rfl rfl ?_
                      refine Ak_lload_n 73 1 (d_Tests_combine 9 72 (.lload_n 1) 1 rfl) rfl rfl rfl ?_
                      refine Ak_lload_n 74 3 (d_Tests_combine 10 73 (.lload_n 3) 1 rfl) rfl rfl rfl ?_
                      refine Ak_lsub 75 (d_Tests_combine 11 74 (.lsub) 1 rfl) rfl ?_
                      refine Ak_lstore 77 (d_Tests_combine 12 75 (.lstore 5) 2 rfl) rfl (by decide) ?_
                      refine Ak_goto 209 (d_Tests_combine 13 77 (.goto 132) 3 rfl) rfl ?_
                      refine Ak_keep [false, false, false, false, false, true] ?_
                      exact t_Tests_combine_J209  h
                    · replace h := it_f hc28 h
                      by_cases hc29 : x0 = (-2)
                      · replace h := it_t hc29 h
                        refine Ak_tableIn 64 (-2) hc29 (d_Tests_combine 3 4 (.tableswitch 200 (-12) (-2) #[192, 176, 160, 144, 134, 124, 104, 84, 76, 68, 60]) 60 rfl) (by decide) (by decide) rfl rfl ?_
                        refine Ak_lload_n 65 1 (d_Tests_combine 4 64 (.lload_n 1) 1 rfl) rfl rfl rfl ?_
                        refine Ak_lload_n 66 3 (d_Tests_combine 5 65 (.lload_n 3) 1 rfl) rfl rfl rfl ?_
                        refine Ak_ladd 67 (d_Tests_combine 6 66 (.ladd) 1 rfl) rfl ?_
                        refine Ak_lstore 69 (d_Tests_combine 7 67 (.lstore 5) 2 rfl) rfl (by decide) ?_
                        refine Ak_goto 209 (d_Tests_combine 8 69 (.goto 140) 3 rfl) rfl ?_
                        refine Ak_keep [false, false, false, false, false, true] ?_
                        exact t_Tests_combine_J209  h
                      · replace h := it_f hc29 h
                        refine Ak_tableOut 204 (by omega) (d_Tests_combine 3 4 (.tableswitch 200 (-12) (-2) #[192, 176, 160, 144, 134, 124, 104, 84, 76, 68, 60]) 60 rfl) rfl ?_
                        refine Ak_lload_n 205 1 (d_Tests_combine 83 204 (.lload_n 1) 1 rfl) rfl rfl rfl ?_
                        refine Ak_lload_n 206 3 (d_Tests_combine 84 205 (.lload_n 3) 1 rfl) rfl rfl rfl ?_
                        refine Ak_lor 207 (d_Tests_combine 85 206 (.lor) 1 rfl) rfl ?_
                        refine Ak_lstore 209 (d_Tests_combine 86 207 (.lstore 5) 2 rfl) rfl (by decide) ?_
                        refine Ak_keep [false, false, false, false, false, true] ?_
                        exact t_Tests_combine_J209  h
theorem t_Tests_evaluate_J130 {S : ASh} {K25 : ASt → Int → Int → Option (Int × ASt)} {V : ASt} {x0 x1 x2 x3 x4 x5 x6 x7 x8 s0 s1 s2 : Int} {r : Int} {V' : ASt} (hO : isO S x0 8 = true) (hK25 : ∀ {V : ASt} {y7 y8 : Int} {r : Int} {V' : ASt}, K25 V y7 y8 = some (r, V') → AWk m_Tests_evaluate 4 0 0 0 0 25 [some (aR x0), some (aI x1), some (aI x2), some (aI x3), some (aI x4), some (aI x5), some (aI x6), some (aI y7), some (aI y8)] [] S V (some (aI r)) S V') (h : b_Tests_evaluate_J130 S K25 V x0 x1 x2 x3 x4 x5 x6 x7 x8 s0 s1 s2 = some (r, V')) : AWk m_Tests_evaluate 4 0 0 0 0 130 [some (aR x0), some (aI x1), some (aI x2), some (aI x3), some (aI x4), some (aI x5), some (aI x6), some (aI x7), some (aI x8)] [(aI s2), (aI s1), (aR s0)] S V (some (aI r)) S V' := by
  unfold b_Tests_evaluate_J130 at h
  obtain ⟨ha1, h⟩ := gd_some h
  refine Ak_iastore 131 ha1 (d_Tests_evaluate 64 130 (.iastore) 1 rfl) rfl (fun V2 hV2 => ?_)
  replace h := wV_some h V2 hV2
  refine Ak_iinc 134 (d_Tests_evaluate 65 131 (.iinc 7 1) 3 rfl) rfl rfl (by decide) ?_
  refine Ak_goto 214 (d_Tests_evaluate 66 134 (.goto 80) 3 rfl) rfl ?_
  refine Ak_iinc 217 (d_Tests_evaluate 112 214 (.iinc 8 1) 3 rfl) rfl rfl (by decide) ?_
  refine Ak_goto 25 (d_Tests_evaluate 113 217 (.goto (-192)) 3 rfl) rfl ?_
  refine Ak_keep [true, true, true, true, true, true, true, true, true] ?_
  exact hK25 h
theorem t_Tests_evaluate_J59 {S : ASh} {K25 : ASt → Int → Int → Option (Int × ASt)} {V : ASt} {x0 x1 x2 x3 x4 x5 x6 x7 x8 x9 : Int} {r : Int} {V' : ASt} (hO : isO S x0 8 = true) (hK25 : ∀ {V : ASt} {y7 y8 : Int} {r : Int} {V' : ASt}, K25 V y7 y8 = some (r, V') → AWk m_Tests_evaluate 4 0 0 0 0 25 [some (aR x0), some (aI x1), some (aI x2), some (aI x3), some (aI x4), some (aI x5), some (aI x6), some (aI y7), some (aI y8)] [] S V (some (aI r)) S V') (h : b_Tests_evaluate_J59 S K25 V x0 x1 x2 x3 x4 x5 x6 x7 x8 x9 = some (r, V')) : AWk m_Tests_evaluate 4 0 0 0 0 59 [some (aR x0), some (aI x1), some (aI x2), some (aI x3), some (aI x4), some (aI x5), some (aI x6), some (aI x7), some (aI x8), some (aI x9)] [] S V (some (aI r)) S V' := by
  unfold b_Tests_evaluate_J59 at h
  refine Ak_iload 61 (d_Tests_evaluate 33 59 (.iload 7) 2 rfl) rfl rfl ?_
  refine Ak_bipush 63 (d_Tests_evaluate 34 61 (.bipush 64) 2 rfl) rfl (bp_ok rfl) (rk rfl) ?_
  refine Ak_icmp_ge 214 66 (d_Tests_evaluate 35 63 (.if_icmp .ge 151) 3 rfl) rfl rfl (fun hc => ?_) (fun hc => ?_)
  · replace h := it_t hc h
    refine Ak_iinc 217 (d_Tests_evaluate 112 214 (.iinc 8 1) 3 rfl) rfl rfl (by decide) ?_
    refine Ak_goto 25 (d_Tests_evaluate 113 217 (.goto (-192)) 3 rfl) rfl ?_
    refine Ak_keep [true, true, true, true, true, true, true, true, true] ?_
    exact hK25 h
  · replace h := it_f hc h
    refine Ak_aload_n 67 0 (d_Tests_evaluate 36 66 (.aload_n 0) 1 rfl) rfl rfl rfl ?_
    refine Ak_getF 70 4 hO clX8 (by decide) rfl lkF_Tests_25 (d_Tests_evaluate 37 67 (.getfield 25) 3 rfl) rfl ?_
    refine Ak_iload 72 (d_Tests_evaluate 38 70 (.iload 7) 2 rfl) rfl rfl ?_
    refine Ak_iload 74 (d_Tests_evaluate 39 72 (.iload 9) 2 rfl) rfl rfl ?_
    refine Ak_if_lt 82 77 (d_Tests_evaluate 40 74 (.ifCond .lt 8) 3 rfl) rfl rfl (fun hc => ?_) (fun hc => ?_)
    · replace h := it_t hc h
      refine Ak_iload 84 (d_Tests_evaluate 43 82 (.iload 9) 2 rfl) rfl rfl ?_
      refine Ak_bipush 86 (d_Tests_evaluate 44 84 (.bipush (-15)) 2 rfl) rfl (bp_ok rfl) (rk rfl) ?_
      refine Ak_icmp_ne 93 89 (d_Tests_evaluate 45 86 (.if_icmp .ne 7) 3 rfl) rfl rfl (fun hc => ?_) (fun hc => ?_)
      · replace h := it_f hc h
        refine Ak_iload 95 (d_Tests_evaluate 48 93 (.iload 9) 2 rfl) rfl rfl ?_
        refine Ak_bipush 97 (d_Tests_evaluate 49 95 (.bipush (-16)) 2 rfl) rfl (bp_ok rfl) (rk rfl) ?_
        refine Ak_icmp_ne 104 100 (d_Tests_evaluate 50 97 (.if_icmp .ne 7) 3 rfl) rfl rfl (fun hc => ?_) (fun hc => ?_)
        · replace h := it_f hc h
          refine Ak_iload 106 (d_Tests_evaluate 53 104 (.iload 9) 2 rfl) rfl rfl ?_
          refine Ak_bipush 108 (d_Tests_evaluate 54 106 (.bipush (-17)) 2 rfl) rfl (bp_ok rfl) (rk rfl) ?_
          refine Ak_icmp_ne 116 111 (d_Tests_evaluate 55 108 (.if_icmp .ne 8) 3 rfl) rfl rfl (fun hc => ?_) (fun hc => ?_)
          · replace h := it_f hc h
            refine Ak_iload 118 (d_Tests_evaluate 58 116 (.iload 9) 2 rfl) rfl rfl ?_
            refine Ak_bipush 120 (d_Tests_evaluate 59 118 (.bipush (-18)) 2 rfl) rfl (bp_ok rfl) (rk rfl) ?_
            refine Ak_icmp_ne 128 123 (d_Tests_evaluate 60 120 (.if_icmp .ne 8) 3 rfl) rfl rfl (fun hc => ?_) (fun hc => ?_)
            · replace h := it_f hc h
              refine Ak_iload 130 (d_Tests_evaluate 63 128 (.iload 6) 2 rfl) rfl rfl ?_
              refine Ak_keep [true, true, true, true, true, true, true, true, true] ?_
              exact t_Tests_evaluate_J130 hO (fun h => hK25 h) h
            · replace h := it_t hc h
              refine Ak_iload 125 (d_Tests_evaluate 61 123 (.iload 5) 2 rfl) rfl rfl ?_
              refine Ak_goto 130 (d_Tests_evaluate 62 125 (.goto 5) 3 rfl) rfl ?_
              refine Ak_keep [true, true, true, true, true, true, true, true, true] ?_
              exact t_Tests_evaluate_J130 hO (fun h => hK25 h) h
          · replace h := it_t hc h
            refine Ak_iload 113 (d_Tests_evaluate 56 111 (.iload 4) 2 rfl) rfl rfl ?_
            refine Ak_goto 130 (d_Tests_evaluate 57 113 (.goto 17) 3 rfl) rfl ?_
            refine Ak_keep [true, true, true, true, true, true, true, true, true] ?_
            exact t_Tests_evaluate_J130 hO (fun h => hK25 h) h
        · replace h := it_t hc h
          refine Ak_iload_n 101 3 (d_Tests_evaluate 51 100 (.iload_n 3) 1 rfl) rfl rfl rfl ?_
          refine Ak_goto 130 (d_Tests_evaluate 52 101 (.goto 29) 3 rfl) rfl ?_
          refine Ak_keep [true, true, true, true, true, true, true, true, true] ?_
          exact t_Tests_evaluate_J130 hO (fun h => hK25 h) h
      · replace h := it_t hc h
        refine Ak_iload_n 90 2 (d_Tests_evaluate 46 89 (.iload_n 2) 1 rfl) rfl rfl rfl ?_
        refine Ak_goto 130 (d_Tests_evaluate 47 90 (.goto 40) 3 rfl) rfl ?_
        refine Ak_keep [true, true, true, true, true, true, true, true, true] ?_
        exact t_Tests_evaluate_J130 hO (fun h => hK25 h) h
    · replace h := it_f hc h
      refine Ak_iload 79 (d_Tests_evaluate 41 77 (.iload 9) 2 rfl) rfl rfl ?_
      refine Ak_goto 130 (d_Tests_evaluate 42 79 (.goto 51) 3 rfl) rfl ?_
      refine Ak_keep [true, true, true, true, true, true, true, true, true] ?_
      exact t_Tests_evaluate_J130 hO (fun h => hK25 h) h
theorem t_Tests_evaluate_J173 {S : ASh} {K25 : ASt → Int → Int → Option (Int × ASt)} {V : ASt} {x0 x1 x2 x3 x4 x5 x6 x7 x8 x9 : Int} {r : Int} {V' : ASt} (hO : isO S x0 8 = true) (hK25 : ∀ {V : ASt} {y7 y8 : Int} {r : Int} {V' : ASt}, K25 V y7 y8 = some (r, V') → AWk m_Tests_evaluate 4 0 0 0 0 25 [some (aR x0), some (aI x1), some (aI x2), some (aI x3), some (aI x4), some (aI x5), some (aI x6), some (aI y7), some (aI y8)] [] S V (some (aI r)) S V') (h : b_Tests_evaluate_J173 S K25 V x0 x1 x2 x3 x4 x5 x6 x7 x8 x9 = some (r, V')) : AWk m_Tests_evaluate 4 0 0 0 0 173 [some (aR x0), some (aI x1), some (aI x2), some (aI x3), some (aI x4), some (aI x5), some (aI x6), some (aI x7), some (aI x8), some (aI x9)] [] S V (some (aI r)) S V' := by
  unfold b_Tests_evaluate_J173 at h
  refine Ak_iload 175 (d_Tests_evaluate 88 173 (.iload 7) 2 rfl) rfl rfl ?_
  refine Ak_iconst 176 (d_Tests_evaluate 89 175 (.iconst 2) 1 rfl) rfl (rk rfl) ?_
  refine Ak_icmp_lt 214 179 (d_Tests_evaluate 90 176 (.if_icmp .lt 38) 3 rfl) rfl rfl (fun hc => ?_) (fun hc => ?_)
  · replace h := it_t hc h
    refine Ak_iinc 217 (d_Tests_evaluate 112 214 (.iinc 8 1) 3 rfl) rfl rfl (by decide) ?_
    refine Ak_goto 25 (d_Tests_evaluate 113 217 (.goto (-192)) 3 rfl) rfl ?_
    refine Ak_keep [true, true, true, true, true, true, true, true, true] ?_
    exact hK25 h
  · replace h := it_f hc h
    refine Ak_iinc 182 (d_Tests_evaluate 91 179 (.iinc 7 (-1)) 3 rfl) rfl rfl (by decide) ?_
    refine Ak_aload_n 183 0 (d_Tests_evaluate 92 182 (.aload_n 0) 1 rfl) rfl rfl rfl ?_
    refine Ak_getF 186 4 hO clX8 (by decide) rfl lkF_Tests_25 (d_Tests_evaluate 93 183 (.getfield 25) 3 rfl) rfl ?_
    refine Ak_iload 188 (d_Tests_evaluate 94 186 (.iload 7) 2 rfl) rfl rfl ?_
    refine Ak_iconst 189 (d_Tests_evaluate 95 188 (.iconst 1) 1 rfl) rfl (rk rfl) ?_
    refine Ak_isub 190 (d_Tests_evaluate 96 189 (.isub) 1 rfl) rfl ?_
    refine Ak_iload 192 (d_Tests_evaluate 97 190 (.iload 9) 2 rfl) rfl rfl ?_
    refine Ak_aload_n 193 0 (d_Tests_evaluate 98 192 (.aload_n 0) 1 rfl) rfl rfl rfl ?_
    refine Ak_getF 196 4 hO clX8 (by decide) rfl lkF_Tests_25 (d_Tests_evaluate 99 193 (.getfield 25) 3 rfl) rfl ?_
    refine Ak_iload 198 (d_Tests_evaluate 100 196 (.iload 7) 2 rfl) rfl rfl ?_
    refine Ak_iconst 199 (d_Tests_evaluate 101 198 (.iconst 1) 1 rfl) rfl (rk rfl) ?_
    refine Ak_isub 200 (d_Tests_evaluate 102 199 (.isub) 1 rfl) rfl ?_
    obtain ⟨ha3, h⟩ := gd_some h
    refine Ak_iaload 201 ha3 (d_Tests_evaluate 103 200 (.iaload) 1 rfl) rfl ?_
    refine Ak_i2l 202 (d_Tests_evaluate 104 201 (.i2l) 1 rfl) rfl ?_
    refine Ak_aload_n 203 0 (d_Tests_evaluate 105 202 (.aload_n 0) 1 rfl) rfl rfl rfl ?_
    refine Ak_getF 206 4 hO clX8 (by decide) rfl lkF_Tests_25 (d_Tests_evaluate 106 203 (.getfield 25) 3 rfl) rfl ?_
    refine Ak_iload 208 (d_Tests_evaluate 107 206 (.iload 7) 2 rfl) rfl rfl ?_
    obtain ⟨ha4, h⟩ := gd_some h
    refine Ak_iaload 209 ha4 (d_Tests_evaluate 108 208 (.iaload) 1 rfl) rfl ?_
    refine Ak_i2l 210 (d_Tests_evaluate 109 209 (.i2l) 1 rfl) rfl ?_
    obtain ⟨r5, V6, h7, h⟩ := bnd_some h
    refine Ak_cS1 213 3 (c_Tests_combine h7) rfl mok_Tests_combine lkM_Tests_28 (d_Tests_evaluate 110 210 (.invokestatic 28) 3 rfl) rfl (by decide) (Nat.le_of_ble_eq_true rfl) ?_
    refine Ak_iastore 214 ha3 (d_Tests_evaluate 111 213 (.iastore) 1 rfl) rfl (fun V8 hV8 => ?_)
    replace h := wV_some h V8 hV8
    refine Ak_iinc 217 (d_Tests_evaluate 112 214 (.iinc 8 1) 3 rfl) rfl rfl (by decide) ?_
    refine Ak_goto 25 (d_Tests_evaluate 113 217 (.goto (-192)) 3 rfl) rfl ?_
    refine Ak_keep [true, true, true, true, true, true, true, true, true] ?_
    exact hK25 h
theorem t_Tests_evaluate_L25 {S : ASh} {x0 x1 x2 x3 x4 x5 x6 : Int} (hO : isO S x0 8 = true) : ∀ (n : Nat) (V : ASt) (x7 x8 : Int) (r : Int) (V' : ASt), b_Tests_evaluate_L25 S x0 x1 x2 x3 x4 x5 x6 n V x7 x8 = some (r, V') → AWk m_Tests_evaluate 4 0 0 0 0 25 [some (aR x0), some (aI x1), some (aI x2), some (aI x3), some (aI x4), some (aI x5), some (aI x6), some (aI x7), some (aI x8)] [] S V (some (aI r)) S V' := by
  intro n
  induction n with
  | zero => intro V x7 x8 r V' h; cases h
  | succ n ih =>
    intro V x7 x8 r V' h
    replace ih : ∀ {V : ASt} {x7 x8 : Int} {r : Int} {V' : ASt}, b_Tests_evaluate_L25 S x0 x1 x2 x3 x4 x5 x6 n V x7 x8 = some (r, V') → AWk m_Tests_evaluate 4 0 0 0 0 25 [some (aR x0), some (aI x1), some (aI x2), some (aI x3), some (aI x4), some (aI x5), some (aI x6), some (aI x7), some (aI x8)] [] S V (some (aI r)) S V' := fun h => ih _ _ _ _ _ h
    rw [b_Tests_evaluate_L25] at h
    refine Ak_iload 27 (d_Tests_evaluate 15 25 (.iload 8) 2 rfl) rfl rfl ?_
    refine Ak_aload_n 28 0 (d_Tests_evaluate 16 27 (.aload_n 0) 1 rfl) rfl rfl rfl ?_
    refine Ak_getF 31 1 hO clX8 (by decide) rfl lkF_Tests_15 (d_Tests_evaluate 17 28 (.getfield 15) 3 rfl) rfl ?_
    refine Ak_iload_n 32 1 (d_Tests_evaluate 18 31 (.iload_n 1) 1 rfl) rfl rfl rfl ?_
    refine Ak_iconst 33 (d_Tests_evaluate 19 32 (.iconst 1) 1 rfl) rfl (rk rfl) ?_
    refine Ak_iadd 34 (d_Tests_evaluate 20 33 (.iadd) 1 rfl) rfl ?_
    obtain ⟨ha9, h⟩ := gd_some h
    refine Ak_iaload 35 ha9 (d_Tests_evaluate 21 34 (.iaload) 1 rfl) rfl ?_
    refine Ak_icmp_ge 220 38 (d_Tests_evaluate 22 35 (.if_icmp .ge 185) 3 rfl) rfl rfl (fun hc => ?_) (fun hc => ?_)
    · replace h := it_t hc h
      refine Ak_iload 222 (d_Tests_evaluate 114 220 (.iload 7) 2 rfl) rfl rfl ?_
      refine Ak_if_le 238 225 (d_Tests_evaluate 115 222 (.ifCond .le 16) 3 rfl) rfl rfl (fun hc => ?_) (fun hc => ?_)
      · replace h := it_t hc h
        refine Ak_iconst 239 (d_Tests_evaluate 123 238 (.iconst 0) 1 rfl) rfl (rk rfl) ?_
        cases h
        exact Ak_zret (Or.inl rfl) rfl (d_Tests_evaluate 124 239 (.ireturn) 1 rfl)
      · replace h := it_f hc h
        refine Ak_aload_n 226 0 (d_Tests_evaluate 116 225 (.aload_n 0) 1 rfl) rfl rfl rfl ?_
        refine Ak_getF 229 4 hO clX8 (by decide) rfl lkF_Tests_25 (d_Tests_evaluate 117 226 (.getfield 25) 3 rfl) rfl ?_
        refine Ak_iconst 230 (d_Tests_evaluate 118 229 (.iconst 0) 1 rfl) rfl (rk rfl) ?_
        obtain ⟨ha10, h⟩ := gd_some h
        refine Ak_iaload 231 ha10 (d_Tests_evaluate 119 230 (.iaload) 1 rfl) rfl ?_
        refine Ak_if_eq 238 234 (d_Tests_evaluate 120 231 (.ifCond .eq 7) 3 rfl) rfl rfl (fun hc => ?_) (fun hc => ?_)
        · replace h := it_t hc h
          refine Ak_iconst 239 (d_Tests_evaluate 123 238 (.iconst 0) 1 rfl) rfl (rk rfl) ?_
          cases h
          exact Ak_zret (Or.inl rfl) rfl (d_Tests_evaluate 124 239 (.ireturn) 1 rfl)
        · replace h := it_f hc h
          refine Ak_iconst 235 (d_Tests_evaluate 121 234 (.iconst 1) 1 rfl) rfl (rk rfl) ?_
          refine Ak_goto 239 (d_Tests_evaluate 122 235 (.goto 4) 3 rfl) rfl ?_
          cases h
          exact Ak_zret (Or.inr rfl) rfl (d_Tests_evaluate 124 239 (.ireturn) 1 rfl)
    · replace h := it_f hc h
      refine Ak_aload_n 39 0 (d_Tests_evaluate 23 38 (.aload_n 0) 1 rfl) rfl rfl rfl ?_
      refine Ak_getF 42 0 hO clX8 (by decide) rfl lkF_Tests_9 (d_Tests_evaluate 24 39 (.getfield 9) 3 rfl) rfl ?_
      refine Ak_iload 44 (d_Tests_evaluate 25 42 (.iload 8) 2 rfl) rfl rfl ?_
      obtain ⟨ha11, h⟩ := gd_some h
      refine Ak_iaload 45 ha11 (d_Tests_evaluate 26 44 (.iaload) 1 rfl) rfl ?_
      refine Ak_istore 47 (d_Tests_evaluate 27 45 (.istore 9) 2 rfl) rfl (by decide) ?_
      refine Ak_iload 49 (d_Tests_evaluate 28 47 (.iload 9) 2 rfl) rfl rfl ?_
      refine Ak_if_ge 59 52 (d_Tests_evaluate 29 49 (.ifCond .ge 10) 3 rfl) rfl rfl (fun hc => ?_) (fun hc => ?_)
      · replace h := it_t hc h
        refine Ak_keep [true, true, true, true, true, true, true, true, true, true] ?_
        exact t_Tests_evaluate_J59 hO (fun h => ih h) h
      · replace h := it_f hc h
        refine Ak_iload 54 (d_Tests_evaluate 30 52 (.iload 9) 2 rfl) rfl rfl ?_
        refine Ak_bipush 56 (d_Tests_evaluate 31 54 (.bipush (-15)) 2 rfl) rfl (bp_ok rfl) (rk rfl) ?_
        refine Ak_icmp_gt 137 59 (d_Tests_evaluate 32 56 (.if_icmp .gt 81) 3 rfl) rfl rfl (fun hc => ?_) (fun hc => ?_)
        · replace h := it_t hc h
          refine Ak_iload 139 (d_Tests_evaluate 67 137 (.iload 9) 2 rfl) rfl rfl ?_
          refine Ak_bipush 141 (d_Tests_evaluate 68 139 (.bipush (-14)) 2 rfl) rfl (bp_ok rfl) (rk rfl) ?_
          refine Ak_icmp_ne 173 144 (d_Tests_evaluate 69 141 (.if_icmp .ne 32) 3 rfl) rfl rfl (fun hc => ?_) (fun hc => ?_)
          · replace h := it_f hc h
            refine Ak_keep [true, true, true, true, true, true, true, true, true, true] ?_
            exact t_Tests_evaluate_J173 hO (fun h => ih h) h
          · replace h := it_t hc h
            refine Ak_iload 146 (d_Tests_evaluate 70 144 (.iload 7) 2 rfl) rfl rfl ?_
            refine Ak_iconst 147 (d_Tests_evaluate 71 146 (.iconst 1) 1 rfl) rfl (rk rfl) ?_
            refine Ak_icmp_lt 173 150 (d_Tests_evaluate 72 147 (.if_icmp .lt 26) 3 rfl) rfl rfl (fun hc => ?_) (fun hc => ?_)
            · replace h := it_t hc h
              refine Ak_keep [true, true, true, true, true, true, true, true, true, true] ?_
              exact t_Tests_evaluate_J173 hO (fun h => ih h) h
            · replace h := it_f hc h
              refine Ak_aload_n 151 0 (d_Tests_evaluate 73 150 (.aload_n 0) 1 rfl) rfl rfl rfl ?_
              refine Ak_getF 154 4 hO clX8 (by decide) rfl lkF_Tests_25 (d_Tests_evaluate 74 151 (.getfield 25) 3 rfl) rfl ?_
              refine Ak_iload 156 (d_Tests_evaluate 75 154 (.iload 7) 2 rfl) rfl rfl ?_
              refine Ak_iconst 157 (d_Tests_evaluate 76 156 (.iconst 1) 1 rfl) rfl (rk rfl) ?_
              refine Ak_isub 158 (d_Tests_evaluate 77 157 (.isub) 1 rfl) rfl ?_
              refine Ak_iconst 159 (d_Tests_evaluate 78 158 (.iconst 1) 1 rfl) rfl (rk rfl) ?_
              refine Ak_aload_n 160 0 (d_Tests_evaluate 79 159 (.aload_n 0) 1 rfl) rfl rfl rfl ?_
              refine Ak_getF 163 4 hO clX8 (by decide) rfl lkF_Tests_25 (d_Tests_evaluate 80 160 (.getfield 25) 3 rfl) rfl ?_
              refine Ak_iload 165 (d_Tests_evaluate 81 163 (.iload 7) 2 rfl) rfl rfl ?_
              refine Ak_iconst 166 (d_Tests_evaluate 82 165 (.iconst 1) 1 rfl) rfl (rk rfl) ?_
              refine Ak_isub 167 (d_Tests_evaluate 83 166 (.isub) 1 rfl) rfl ?_
              obtain ⟨ha12, h⟩ := gd_some h
              refine Ak_iaload 168 ha12 (d_Tests_evaluate 84 167 (.iaload) 1 rfl) rfl ?_
              refine Ak_isub 169 (d_Tests_evaluate 85 168 (.isub) 1 rfl) rfl ?_
              refine Ak_iastore 170 ha12 (d_Tests_evaluate 86 169 (.iastore) 1 rfl) rfl (fun V13 hV13 => ?_)
              replace h := wV_some h V13 hV13
              refine Ak_goto 214 (d_Tests_evaluate 87 170 (.goto 44) 3 rfl) rfl ?_
              refine Ak_iinc 217 (d_Tests_evaluate 112 214 (.iinc 8 1) 3 rfl) rfl rfl (by decide) ?_
              refine Ak_goto 25 (d_Tests_evaluate 113 217 (.goto (-192)) 3 rfl) rfl ?_
              refine Ak_keep [true, true, true, true, true, true, true, true, true] ?_
              exact ih h
        · replace h := it_f hc h
          refine Ak_keep [true, true, true, true, true, true, true, true, true, true] ?_
          exact t_Tests_evaluate_J59 hO (fun h => ih h) h
theorem c_Tests_evaluate {S : ASh} {V : ASt} {x0 x1 x2 x3 x4 x5 x6 : Int} {r : Int} {V' : ASt} (h : f_Tests_evaluate S V x0 x1 x2 x3 x4 x5 x6 = some (r, V')) : ACt m_Tests_evaluate 4 0 0 [(aR x0), (aI x1), (aI x2), (aI x3), (aI x4), (aI x5), (aI x6)] S V (some (aI r)) S V' := by
  unfold f_Tests_evaluate at h
  obtain ⟨hO, h⟩ := gd_some h
  refine ACt_of (plainFor_of_name rfl) rfl (Nat.le_of_ble_eq_true rfl) ?_
  show AWk m_Tests_evaluate 4 0 0 0 0 0 [some (aR x0), some (aI x1), some (aI x2), some (aI x3), some (aI x4), some (aI x5), some (aI x6)] [] S V (some (aI r)) S V'
  refine Ak_iload_n 1 1 (d_Tests_evaluate 0 0 (.iload_n 1) 1 rfl) rfl rfl rfl ?_
  refine Ak_if_lt 12 4 (d_Tests_evaluate 1 1 (.ifCond .lt 11) 3 rfl) rfl rfl (fun hc => ?_) (fun hc => ?_)
  · replace h := it_t hc h
    refine Ak_iconst 13 (d_Tests_evaluate 6 12 (.iconst 0) 1 rfl) rfl (rk rfl) ?_
    cases h
    exact Ak_zret (Or.inl rfl) rfl (d_Tests_evaluate 7 13 (.ireturn) 1 rfl)
  · replace h := it_f hc h
    refine Ak_iload_n 5 1 (d_Tests_evaluate 2 4 (.iload_n 1) 1 rfl) rfl rfl rfl ?_
    refine Ak_aload_n 6 0 (d_Tests_evaluate 3 5 (.aload_n 0) 1 rfl) rfl rfl rfl ?_
    refine Ak_getI 9 3 hO clX8 (by decide) (Or.inl rfl) lkF_Tests_22 (d_Tests_evaluate 4 6 (.getfield 22) 3 rfl) rfl ?_
    refine Ak_icmp_lt 14 12 (d_Tests_evaluate 5 9 (.if_icmp .lt 5) 3 rfl) rfl rfl (fun hc => ?_) (fun hc => ?_)
    · replace h := it_t hc h
      refine Ak_iconst 15 (d_Tests_evaluate 8 14 (.iconst 0) 1 rfl) rfl (rk rfl) ?_
      refine Ak_istore 17 (d_Tests_evaluate 9 15 (.istore 7) 2 rfl) rfl (by decide) ?_
      refine Ak_aload_n 18 0 (d_Tests_evaluate 10 17 (.aload_n 0) 1 rfl) rfl rfl rfl ?_
      refine Ak_getF 21 1 hO clX8 (by decide) rfl lkF_Tests_15 (d_Tests_evaluate 11 18 (.getfield 15) 3 rfl) rfl ?_
      refine Ak_iload_n 22 1 (d_Tests_evaluate 12 21 (.iload_n 1) 1 rfl) rfl rfl rfl ?_
      obtain ⟨ha14, h⟩ := gd_some h
      refine Ak_iaload 23 ha14 (d_Tests_evaluate 13 22 (.iaload) 1 rfl) rfl ?_
      refine Ak_istore 25 (d_Tests_evaluate 14 23 (.istore 8) 2 rfl) rfl (by decide) ?_
      refine Ak_keep [true, true, true, true, true, true, true, true, true] ?_
      exact t_Tests_evaluate_L25 hO FU _ _ _ _ _ h
    · replace h := it_f hc h
      refine Ak_iconst 13 (d_Tests_evaluate 6 12 (.iconst 0) 1 rfl) rfl (rk rfl) ?_
      cases h
      exact Ak_zret (Or.inl rfl) rfl (d_Tests_evaluate 7 13 (.ireturn) 1 rfl)
theorem t_Game_holds_J225 {S : ASh} {V : ASt} {x0 x6 x7 : Int} {r : Int} {V' : ASt} (hO : isO S x0 1 = true) (h : b_Game_holds_J225 S  V x0 x6 x7 = some (r, V')) : AWk m_Game_holds 5 0 0 0 0 225 [some (aR x0), none, none, none, none, none, some (aI x6), some (aI x7)] [] S V (some (aI r)) S V' := by
  unfold b_Game_holds_J225 at h
  refine Ak_aload_n 226 0 (d_Game_holds 127 225 (.aload_n 0) 1 rfl) rfl rfl rfl ?_
  refine Ak_getF 229 16 hO clX1 (by decide) rfl lkF_Game_66 (d_Game_holds 128 226 (.getfield 66) 3 rfl) rfl ?_
  refine Ak_iload 231 (d_Game_holds 129 229 (.iload 6) 2 rfl) rfl rfl ?_
  obtain ⟨ha1, h⟩ := gd_some h
  refine Ak_iaload 232 ha1 (d_Game_holds 130 231 (.iaload) 1 rfl) rfl ?_
  refine Ak_iload 234 (d_Game_holds 131 232 (.iload 7) 2 rfl) rfl rfl ?_
  refine Ak_iand 235 (d_Game_holds 132 234 (.iand) 1 rfl) rfl ?_
  refine Ak_if_eq 242 238 (d_Game_holds 133 235 (.ifCond .eq 7) 3 rfl) rfl rfl (fun hc => ?_) (fun hc => ?_)
  · replace h := it_t hc h
    refine Ak_iconst 243 (d_Game_holds 136 242 (.iconst 0) 1 rfl) rfl (rk rfl) ?_
    cases h
    exact Ak_zret (Or.inl rfl) rfl (d_Game_holds 137 243 (.ireturn) 1 rfl)
  · replace h := it_f hc h
    refine Ak_iconst 239 (d_Game_holds 134 238 (.iconst 1) 1 rfl) rfl (rk rfl) ?_
    refine Ak_goto 243 (d_Game_holds 135 239 (.goto 4) 3 rfl) rfl ?_
    cases h
    exact Ak_zret (Or.inr rfl) rfl (d_Game_holds 137 243 (.ireturn) 1 rfl)
theorem t_Game_holds_J222 {S : ASh} {V : ASt} {x0 x6 x7 s0 s1 s2 s3 s4 : Int} {r : Int} {V' : ASt} (hO : isO S x0 1 = true) (h : b_Game_holds_J222 S  V x0 x6 x7 s0 s1 s2 s3 s4 = some (r, V')) : AWk m_Game_holds 5 0 0 0 0 222 [some (aR x0), none, none, none, none, none, some (aI x6), some (aI x7)] [(aI s4), (aI s3), (aI s2), (aI s1), (aR s0)] S V (some (aI r)) S V' := by
  unfold b_Game_holds_J222 at h
  refine Ak_ior 223 (d_Game_holds 124 222 (.ior) 1 rfl) rfl ?_
  refine Ak_ior 224 (d_Game_holds 125 223 (.ior) 1 rfl) rfl ?_
  obtain ⟨ha2, h⟩ := gd_some h
  refine Ak_iastore 225 ha2 (d_Game_holds 126 224 (.iastore) 1 rfl) rfl (fun V3 hV3 => ?_)
  replace h := wV_some h V3 hV3
  refine Ak_keep [true, false, false, false, false, false, true, true] ?_
  exact t_Game_holds_J225 hO h
theorem t_Game_holds_J175 {S : ASh} {V : ASt} {x0 x1 x2 x4 x6 x7 x8 x10 s0 : Int} {r : Int} {V' : ASt} (hO : isO S x0 1 = true) (h : b_Game_holds_J175 S  V x0 x1 x2 x4 x6 x7 x8 x10 s0 = some (r, V')) : AWk m_Game_holds 5 0 0 0 0 175 [some (aR x0), some (aI x1), some (aI x2), none, some (aI x4), none, some (aI x6), some (aI x7), some (aI x8), none, some (aI x10)] [(aI s0)] S V (some (aI r)) S V' := by
  unfold b_Game_holds_J175 at h
  refine Ak_istore 177 (d_Game_holds 98 175 (.istore 9) 2 rfl) rfl (by decide) ?_
  refine Ak_aload_n 178 0 (d_Game_holds 99 177 (.aload_n 0) 1 rfl) rfl rfl rfl ?_
  refine Ak_getF 181 5 hO clX1 (by decide) rfl lkF_Game_30 (d_Game_holds 100 178 (.getfield 30) 3 rfl) rfl ?_
  refine Ak_iload_n 182 1 (d_Game_holds 101 181 (.iload_n 1) 1 rfl) rfl rfl rfl ?_
  refine Ak_iload 184 (d_Game_holds 102 182 (.iload 10) 2 rfl) rfl rfl ?_
  refine Ak_iload 186 (d_Game_holds 103 184 (.iload 4) 2 rfl) rfl rfl ?_
  refine Ak_iload_n 187 2 (d_Game_holds 104 186 (.iload_n 2) 1 rfl) rfl rfl rfl ?_
  refine Ak_iconst 188 (d_Game_holds 105 187 (.iconst 1) 1 rfl) rfl (rk rfl) ?_
  refine Ak_iand 189 (d_Game_holds 106 188 (.iand) 1 rfl) rfl ?_
  refine Ak_iload 191 (d_Game_holds 107 189 (.iload 8) 2 rfl) rfl rfl ?_
  refine Ak_iload 193 (d_Game_holds 108 191 (.iload 9) 2 rfl) rfl rfl ?_
  obtain ⟨hg7, h⟩ := gd_some h
  obtain ⟨r4, V5, h6, h⟩ := bnd_some h
  refine Ak_cV1 196 4 (c_Tests_evaluate h6) rfl hg7 clX8 rfl mok_Tests_evaluate lkM_Game_91 (d_Game_holds 109 193 (.invokevirtual 91) 3 rfl) rfl (by decide) (Nat.le_of_ble_eq_true rfl) ?_
  refine Ak_istore 198 (d_Game_holds 110 196 (.istore 12) 2 rfl) rfl (by decide) ?_
  refine Ak_aload_n 199 0 (d_Game_holds 111 198 (.aload_n 0) 1 rfl) rfl rfl rfl ?_
  refine Ak_getF 202 16 hO clX1 (by decide) rfl lkF_Game_66 (d_Game_holds 112 199 (.getfield 66) 3 rfl) rfl ?_
  refine Ak_iload 204 (d_Game_holds 113 202 (.iload 6) 2 rfl) rfl rfl ?_
  refine Ak_dup2 205 (d_Game_holds 114 204 (.dup2) 1 rfl) rfl rfl rfl ?_
  obtain ⟨ha8, h⟩ := gd_some h
  refine Ak_iaload 206 ha8 (d_Game_holds 115 205 (.iaload) 1 rfl) rfl ?_
  refine Ak_iload 208 (d_Game_holds 116 206 (.iload 7) 2 rfl) rfl rfl ?_
  refine Ak_bipush 210 (d_Game_holds 117 208 (.bipush 12) 2 rfl) rfl (bp_ok rfl) (rk rfl) ?_
  refine Ak_ishl 211 (d_Game_holds 118 210 (.ishl) 1 rfl) rfl ?_
  refine Ak_iload 213 (d_Game_holds 119 211 (.iload 12) 2 rfl) rfl rfl ?_
  refine Ak_if_eq 221 216 (d_Game_holds 120 213 (.ifCond .eq 8) 3 rfl) rfl rfl (fun hc => ?_) (fun hc => ?_)
  · replace h := it_t hc h
    refine Ak_iconst 222 (d_Game_holds 123 221 (.iconst 0) 1 rfl) rfl (rk rfl) ?_
    refine Ak_keep [true, false, false, false, false, false, true, true] ?_
    exact t_Game_holds_J222 hO h
  · replace h := it_f hc h
    refine Ak_iload 218 (d_Game_holds 121 216 (.iload 7) 2 rfl) rfl rfl ?_
    refine Ak_goto 222 (d_Game_holds 122 218 (.goto 4) 3 rfl) rfl ?_
    refine Ak_keep [true, false, false, false, false, false, true, true] ?_
    exact t_Game_holds_J222 hO h
theorem t_Game_holds_J156 {S : ASh} {V : ASt} {x0 x1 x2 x3 x4 x6 x7 x9 x10 x11 s0 : Int} {r : Int} {V' : ASt} (hO : isO S x0 1 = true) (h : b_Game_holds_J156 S  V x0 x1 x2 x3 x4 x6 x7 x9 x10 x11 s0 = some (r, V')) : AWk m_Game_holds 5 0 0 0 0 156 [some (aR x0), some (aI x1), some (aI x2), some (aI x3), some (aI x4), none, some (aI x6), some (aI x7), none, some (aI x9), some (aI x10), some (aI x11)] [(aI s0)] S V (some (aI r)) S V' := by
  unfold b_Game_holds_J156 at h
  refine Ak_istore 158 (d_Game_holds 89 156 (.istore 8) 2 rfl) rfl (by decide) ?_
  refine Ak_iload 160 (d_Game_holds 90 158 (.iload 11) 2 rfl) rfl rfl ?_
  refine Ak_if_eq 173 163 (d_Game_holds 91 160 (.ifCond .eq 13) 3 rfl) rfl rfl (fun hc => ?_) (fun hc => ?_)
  · replace h := it_t hc h
    refine Ak_iload 175 (d_Game_holds 97 173 (.iload 9) 2 rfl) rfl rfl ?_
    refine Ak_keep [true, true, true, false, true, false, true, true, true, false, true] ?_
    exact t_Game_holds_J175 hO h
  · replace h := it_f hc h
    refine Ak_iload_n 164 3 (d_Game_holds 92 163 (.iload_n 3) 1 rfl) rfl rfl rfl ?_
    refine Ak_iconst 165 (d_Game_holds 93 164 (.iconst 1) 1 rfl) rfl (rk rfl) ?_
    refine Ak_icmp_ne 173 168 (d_Game_holds 94 165 (.if_icmp .ne 8) 3 rfl) rfl rfl (fun hc => ?_) (fun hc => ?_)
    · replace h := it_f hc h
      refine Ak_iload 175 (d_Game_holds 97 173 (.iload 9) 2 rfl) rfl rfl ?_
      refine Ak_keep [true, true, true, false, true, false, true, true, true, false, true] ?_
      exact t_Game_holds_J175 hO h
    · replace h := it_t hc h
      refine Ak_iload 170 (d_Game_holds 95 168 (.iload 4) 2 rfl) rfl rfl ?_
      refine Ak_goto 175 (d_Game_holds 96 170 (.goto 5) 3 rfl) rfl ?_
      refine Ak_keep [true, true, true, false, true, false, true, true, true, false, true] ?_
      exact t_Game_holds_J175 hO h
theorem t_Game_holds_J138 {S : ASh} {V : ASt} {x0 x1 x2 x3 x4 x6 x7 x8 x9 x10 s0 : Int} {r : Int} {V' : ASt} (hO : isO S x0 1 = true) (h : b_Game_holds_J138 S  V x0 x1 x2 x3 x4 x6 x7 x8 x9 x10 s0 = some (r, V')) : AWk m_Game_holds 5 0 0 0 0 138 [some (aR x0), some (aI x1), some (aI x2), some (aI x3), some (aI x4), none, some (aI x6), some (aI x7), some (aI x8), some (aI x9), some (aI x10)] [(aI s0)] S V (some (aI r)) S V' := by
  unfold b_Game_holds_J138 at h
  refine Ak_istore 140 (d_Game_holds 81 138 (.istore 11) 2 rfl) rfl (by decide) ?_
  refine Ak_iload 142 (d_Game_holds 82 140 (.iload 11) 2 rfl) rfl rfl ?_
  refine Ak_if_eq 154 145 (d_Game_holds 83 142 (.ifCond .eq 12) 3 rfl) rfl rfl (fun hc => ?_) (fun hc => ?_)
  · replace h := it_t hc h
    refine Ak_iload 156 (d_Game_holds 88 154 (.iload 8) 2 rfl) rfl rfl ?_
    refine Ak_keep [true, true, true, true, true, false, true, true, false, true, true, true] ?_
    exact t_Game_holds_J156 hO h
  · replace h := it_f hc h
    refine Ak_iload_n 146 3 (d_Game_holds 84 145 (.iload_n 3) 1 rfl) rfl rfl rfl ?_
    refine Ak_if_ne 154 149 (d_Game_holds 85 146 (.ifCond .ne 8) 3 rfl) rfl rfl (fun hc => ?_) (fun hc => ?_)
    · replace h := it_f hc h
      refine Ak_iload 156 (d_Game_holds 88 154 (.iload 8) 2 rfl) rfl rfl ?_
      refine Ak_keep [true, true, true, true, true, false, true, true, false, true, true, true] ?_
      exact t_Game_holds_J156 hO h
    · replace h := it_t hc h
      refine Ak_iload 151 (d_Game_holds 86 149 (.iload 4) 2 rfl) rfl rfl ?_
      refine Ak_goto 156 (d_Game_holds 87 151 (.goto 5) 3 rfl) rfl ?_
      refine Ak_keep [true, true, true, true, true, false, true, true, false, true, true, true] ?_
      exact t_Game_holds_J156 hO h
theorem t_Game_holds_J121 {S : ASh} {V : ASt} {x0 x1 x2 x3 x4 x6 x7 x8 x9 s0 : Int} {r : Int} {V' : ASt} (hO : isO S x0 1 = true) (h : b_Game_holds_J121 S  V x0 x1 x2 x3 x4 x6 x7 x8 x9 s0 = some (r, V')) : AWk m_Game_holds 5 0 0 0 0 121 [some (aR x0), some (aI x1), some (aI x2), some (aI x3), some (aI x4), none, some (aI x6), some (aI x7), some (aI x8), some (aI x9)] [(aI s0)] S V (some (aI r)) S V' := by
  unfold b_Game_holds_J121 at h
  refine Ak_istore 123 (d_Game_holds 71 121 (.istore 10) 2 rfl) rfl (by decide) ?_
  refine Ak_aload_n 124 0 (d_Game_holds 72 123 (.aload_n 0) 1 rfl) rfl rfl rfl ?_
  refine Ak_getF 127 9 hO clX1 (by decide) rfl lkF_Game_44 (d_Game_holds 73 124 (.getfield 44) 3 rfl) rfl ?_
  refine Ak_iload_n 128 1 (d_Game_holds 74 127 (.iload_n 1) 1 rfl) rfl rfl rfl ?_
  obtain ⟨ha9, h⟩ := gd_some h
  refine Ak_iaload 129 ha9 (d_Game_holds 75 128 (.iaload) 1 rfl) rfl ?_
  refine Ak_iconst 130 (d_Game_holds 76 129 (.iconst 2) 1 rfl) rfl (rk rfl) ?_
  refine Ak_icmp_lt 137 133 (d_Game_holds 77 130 (.if_icmp .lt 7) 3 rfl) rfl rfl (fun hc => ?_) (fun hc => ?_)
  · replace h := it_t hc h
    refine Ak_iconst 138 (d_Game_holds 80 137 (.iconst 0) 1 rfl) rfl (rk rfl) ?_
    refine Ak_keep [true, true, true, true, true, false, true, true, true, true, true] ?_
    exact t_Game_holds_J138 hO h
  · replace h := it_f hc h
    refine Ak_iconst 134 (d_Game_holds 78 133 (.iconst 1) 1 rfl) rfl (rk rfl) ?_
    refine Ak_goto 138 (d_Game_holds 79 134 (.goto 4) 3 rfl) rfl ?_
    refine Ak_keep [true, true, true, true, true, false, true, true, true, true, true] ?_
    exact t_Game_holds_J138 hO h
theorem t_Game_holds_J21 {S : ASh} {V : ASt} {x0 x1 x2 x3 x4 s0 : Int} {r : Int} {V' : ASt} (hO : isO S x0 1 = true) (h : b_Game_holds_J21 S  V x0 x1 x2 x3 x4 s0 = some (r, V')) : AWk m_Game_holds 5 0 0 0 0 21 [some (aR x0), some (aI x1), some (aI x2), some (aI x3), some (aI x4)] [(aI s0)] S V (some (aI r)) S V' := by
  unfold b_Game_holds_J21 at h
  refine Ak_istore 23 (d_Game_holds 11 21 (.istore 5) 2 rfl) rfl (by decide) ?_
  refine Ak_iload 25 (d_Game_holds 12 23 (.iload 5) 2 rfl) rfl rfl ?_
  refine Ak_if_eq 52 28 (d_Game_holds 13 25 (.ifCond .eq 27) 3 rfl) rfl rfl (fun hc => ?_) (fun hc => ?_)
  · replace h := it_t hc h
    refine Ak_iconst 53 (d_Game_holds 25 52 (.iconst 0) 1 rfl) rfl (rk rfl) ?_
    cases h
    exact Ak_zret (Or.inl rfl) rfl (d_Game_holds 26 53 (.ireturn) 1 rfl)
  · replace h := it_f hc h
    refine Ak_iload_n 29 3 (d_Game_holds 14 28 (.iload_n 3) 1 rfl) rfl rfl rfl ?_
    refine Ak_if_lt 52 32 (d_Game_holds 15 29 (.ifCond .lt 23) 3 rfl) rfl rfl (fun hc => ?_) (fun hc => ?_)
    · replace h := it_t hc h
      refine Ak_iconst 53 (d_Game_holds 25 52 (.iconst 0) 1 rfl) rfl (rk rfl) ?_
      cases h
      exact Ak_zret (Or.inl rfl) rfl (d_Game_holds 26 53 (.ireturn) 1 rfl)
    · replace h := it_f hc h
      refine Ak_iload_n 33 3 (d_Game_holds 16 32 (.iload_n 3) 1 rfl) rfl rfl rfl ?_
      refine Ak_aload_n 34 0 (d_Game_holds 17 33 (.aload_n 0) 1 rfl) rfl rfl rfl ?_
      refine Ak_getI 37 1 hO clX1 (by decide) (Or.inl rfl) lkF_Game_15 (d_Game_holds 18 34 (.getfield 15) 3 rfl) rfl ?_
      refine Ak_icmp_ge 52 40 (d_Game_holds 19 37 (.if_icmp .ge 15) 3 rfl) rfl rfl (fun hc => ?_) (fun hc => ?_)
      · replace h := it_t hc h
        refine Ak_iconst 53 (d_Game_holds 25 52 (.iconst 0) 1 rfl) rfl (rk rfl) ?_
        cases h
        exact Ak_zret (Or.inl rfl) rfl (d_Game_holds 26 53 (.ireturn) 1 rfl)
      · replace h := it_f hc h
        refine Ak_iload 42 (d_Game_holds 20 40 (.iload 4) 2 rfl) rfl rfl ?_
        refine Ak_if_lt 52 45 (d_Game_holds 21 42 (.ifCond .lt 10) 3 rfl) rfl rfl (fun hc => ?_) (fun hc => ?_)
        · replace h := it_t hc h
          refine Ak_iconst 53 (d_Game_holds 25 52 (.iconst 0) 1 rfl) rfl (rk rfl) ?_
          cases h
          exact Ak_zret (Or.inl rfl) rfl (d_Game_holds 26 53 (.ireturn) 1 rfl)
        · replace h := it_f hc h
          refine Ak_iload 47 (d_Game_holds 22 45 (.iload 4) 2 rfl) rfl rfl ?_
          refine Ak_bipush 49 (d_Game_holds 23 47 (.bipush 10) 2 rfl) rfl (bp_ok rfl) (rk rfl) ?_
          refine Ak_icmp_lt 54 52 (d_Game_holds 24 49 (.if_icmp .lt 5) 3 rfl) rfl rfl (fun hc => ?_) (fun hc => ?_)
          · replace h := it_t hc h
            refine Ak_iload_n 55 2 (d_Game_holds 27 54 (.iload_n 2) 1 rfl) rfl rfl rfl ?_
            refine Ak_iconst 56 (d_Game_holds 28 55 (.iconst 2) 1 rfl) rfl (rk rfl) ?_
            refine Ak_imul 57 (d_Game_holds 29 56 (.imul) 1 rfl) rfl ?_
            refine Ak_iload_n 58 3 (d_Game_holds 30 57 (.iload_n 3) 1 rfl) rfl rfl rfl ?_
            refine Ak_iadd 59 (d_Game_holds 31 58 (.iadd) 1 rfl) rfl ?_
            refine Ak_bipush 61 (d_Game_holds 32 59 (.bipush 10) 2 rfl) rfl (bp_ok rfl) (rk rfl) ?_
            refine Ak_imul 62 (d_Game_holds 33 61 (.imul) 1 rfl) rfl ?_
            refine Ak_iload 64 (d_Game_holds 34 62 (.iload 4) 2 rfl) rfl rfl ?_
            refine Ak_iadd 65 (d_Game_holds 35 64 (.iadd) 1 rfl) rfl ?_
            refine Ak_istore 67 (d_Game_holds 36 65 (.istore 6) 2 rfl) rfl (by decide) ?_
            refine Ak_iconst 68 (d_Game_holds 37 67 (.iconst 1) 1 rfl) rfl (rk rfl) ?_
            refine Ak_iload_n 69 1 (d_Game_holds 38 68 (.iload_n 1) 1 rfl) rfl rfl rfl ?_
            refine Ak_ishl 70 (d_Game_holds 39 69 (.ishl) 1 rfl) rfl ?_
            refine Ak_istore 72 (d_Game_holds 40 70 (.istore 7) 2 rfl) rfl (by decide) ?_
            refine Ak_aload_n 73 0 (d_Game_holds 41 72 (.aload_n 0) 1 rfl) rfl rfl rfl ?_
            refine Ak_getF 76 16 hO clX1 (by decide) rfl lkF_Game_66 (d_Game_holds 42 73 (.getfield 66) 3 rfl) rfl ?_
            refine Ak_iload 78 (d_Game_holds 43 76 (.iload 6) 2 rfl) rfl rfl ?_
            obtain ⟨ha10, h⟩ := gd_some h
            refine Ak_iaload 79 ha10 (d_Game_holds 44 78 (.iaload) 1 rfl) rfl ?_
            refine Ak_iload 81 (d_Game_holds 45 79 (.iload 7) 2 rfl) rfl rfl ?_
            refine Ak_bipush 83 (d_Game_holds 46 81 (.bipush 12) 2 rfl) rfl (bp_ok rfl) (rk rfl) ?_
            refine Ak_ishl 84 (d_Game_holds 47 83 (.ishl) 1 rfl) rfl ?_
            refine Ak_iand 85 (d_Game_holds 48 84 (.iand) 1 rfl) rfl ?_
            refine Ak_if_ne 225 88 (d_Game_holds 49 85 (.ifCond .ne 140) 3 rfl) rfl rfl (fun hc => ?_) (fun hc => ?_)
            · replace h := it_f hc h
              refine Ak_keep [true, false, false, false, false, false, true, true] ?_
              exact t_Game_holds_J225 hO h
            · replace h := it_t hc h
              refine Ak_aload_n 89 0 (d_Game_holds 50 88 (.aload_n 0) 1 rfl) rfl rfl rfl ?_
              refine Ak_getF 92 15 hO clX1 (by decide) rfl lkF_Game_63 (d_Game_holds 51 89 (.getfield 63) 3 rfl) rfl ?_
              refine Ak_iload_n 93 2 (d_Game_holds 52 92 (.iload_n 2) 1 rfl) rfl rfl rfl ?_
              refine Ak_iconst 94 (d_Game_holds 53 93 (.iconst 2) 1 rfl) rfl (rk rfl) ?_
              refine Ak_imul 95 (d_Game_holds 54 94 (.imul) 1 rfl) rfl ?_
              obtain ⟨ha11, h⟩ := gd_some h
              refine Ak_iaload 96 ha11 (d_Game_holds 55 95 (.iaload) 1 rfl) rfl ?_
              refine Ak_istore 98 (d_Game_holds 56 96 (.istore 8) 2 rfl) rfl (by decide) ?_
              refine Ak_aload_n 99 0 (d_Game_holds 57 98 (.aload_n 0) 1 rfl) rfl rfl rfl ?_
              refine Ak_getF 102 15 hO clX1 (by decide) rfl lkF_Game_63 (d_Game_holds 58 99 (.getfield 63) 3 rfl) rfl ?_
              refine Ak_iload_n 103 2 (d_Game_holds 59 102 (.iload_n 2) 1 rfl) rfl rfl rfl ?_
              refine Ak_iconst 104 (d_Game_holds 60 103 (.iconst 2) 1 rfl) rfl (rk rfl) ?_
              refine Ak_imul 105 (d_Game_holds 61 104 (.imul) 1 rfl) rfl ?_
              refine Ak_iconst 106 (d_Game_holds 62 105 (.iconst 1) 1 rfl) rfl (rk rfl) ?_
              refine Ak_iadd 107 (d_Game_holds 63 106 (.iadd) 1 rfl) rfl ?_
              obtain ⟨ha12, h⟩ := gd_some h
              refine Ak_iaload 108 ha12 (d_Game_holds 64 107 (.iaload) 1 rfl) rfl ?_
              refine Ak_istore 110 (d_Game_holds 65 108 (.istore 9) 2 rfl) rfl (by decide) ?_
              refine Ak_iload_n 111 3 (d_Game_holds 66 110 (.iload_n 3) 1 rfl) rfl rfl rfl ?_
              refine Ak_if_ne 119 114 (d_Game_holds 67 111 (.ifCond .ne 8) 3 rfl) rfl rfl (fun hc => ?_) (fun hc => ?_)
              · replace h := it_f hc h
                refine Ak_iload 121 (d_Game_holds 70 119 (.iload 9) 2 rfl) rfl rfl ?_
                refine Ak_keep [true, true, true, true, true, false, true, true, true, true] ?_
                exact t_Game_holds_J121 hO h
              · replace h := it_t hc h
                refine Ak_iload 116 (d_Game_holds 68 114 (.iload 8) 2 rfl) rfl rfl ?_
                refine Ak_goto 121 (d_Game_holds 69 116 (.goto 5) 3 rfl) rfl ?_
                refine Ak_keep [true, true, true, true, true, false, true, true, true, true] ?_
                exact t_Game_holds_J121 hO h
          · replace h := it_f hc h
            refine Ak_iconst 53 (d_Game_holds 25 52 (.iconst 0) 1 rfl) rfl (rk rfl) ?_
            cases h
            exact Ak_zret (Or.inl rfl) rfl (d_Game_holds 26 53 (.ireturn) 1 rfl)
theorem c_Game_holds {S : ASh} {V : ASt} {x0 x1 x2 x3 x4 : Int} {r : Int} {V' : ASt} (h : f_Game_holds S V x0 x1 x2 x3 x4 = some (r, V')) : ACt m_Game_holds 5 0 0 [(aR x0), (aI x1), (aI x2), (aI x3), (aI x4)] S V (some (aI r)) S V' := by
  unfold f_Game_holds at h
  obtain ⟨hO, h⟩ := gd_some h
  refine ACt_of (plainFor_of_name rfl) rfl (Nat.le_of_ble_eq_true rfl) ?_
  show AWk m_Game_holds 5 0 0 0 0 0 [some (aR x0), some (aI x1), some (aI x2), some (aI x3), some (aI x4)] [] S V (some (aI r)) S V'
  refine Ak_aload_n 1 0 (d_Game_holds 0 0 (.aload_n 0) 1 rfl) rfl rfl rfl ?_
  refine Ak_iload_n 2 1 (d_Game_holds 1 1 (.iload_n 1) 1 rfl) rfl rfl rfl ?_
  obtain ⟨r13, V14, h15, h⟩ := bnd_some h
  refine Ak_cV1 5 2 (c_Game_isRule h15) rfl hO clX1 rfl mok_Game_isRule lkM_Game_78 (d_Game_holds 2 2 (.invokevirtual 78) 3 rfl) rfl (by decide) (Nat.le_of_ble_eq_true rfl) ?_
  refine Ak_if_eq 20 8 (d_Game_holds 3 5 (.ifCond .eq 15) 3 rfl) rfl rfl (fun hc => ?_) (fun hc => ?_)
  · replace h := it_t hc h
    refine Ak_iconst 21 (d_Game_holds 10 20 (.iconst 0) 1 rfl) rfl (rk rfl) ?_
    refine Ak_keep [true, true, true, true, true] ?_
    exact t_Game_holds_J21 hO h
  · replace h := it_f hc h
    refine Ak_aload_n 9 0 (d_Game_holds 4 8 (.aload_n 0) 1 rfl) rfl rfl rfl ?_
    refine Ak_iload_n 10 2 (d_Game_holds 5 9 (.iload_n 2) 1 rfl) rfl rfl rfl ?_
    obtain ⟨r16, V17, h18, h⟩ := bnd_some h
    refine Ak_cV1 13 2 (c_Game_isPosition h18) rfl hO clX1 rfl mok_Game_isPosition lkM_Game_88 (d_Game_holds 6 10 (.invokevirtual 88) 3 rfl) rfl (by decide) (Nat.le_of_ble_eq_true rfl) ?_
    refine Ak_if_eq 20 16 (d_Game_holds 7 13 (.ifCond .eq 7) 3 rfl) rfl rfl (fun hc => ?_) (fun hc => ?_)
    · replace h := it_t hc h
      refine Ak_iconst 21 (d_Game_holds 10 20 (.iconst 0) 1 rfl) rfl (rk rfl) ?_
      refine Ak_keep [true, true, true, true, true] ?_
      exact t_Game_holds_J21 hO h
    · replace h := it_f hc h
      refine Ak_iconst 17 (d_Game_holds 8 16 (.iconst 1) 1 rfl) rfl (rk rfl) ?_
      refine Ak_goto 21 (d_Game_holds 9 17 (.goto 4) 3 rfl) rfl ?_
      refine Ak_keep [true, true, true, true, true] ?_
      exact t_Game_holds_J21 hO h
theorem c_Slate_isPlace {S : ASh} {V : ASt} {x0 x1 : Int} {r : Int} {V' : ASt} (h : f_Slate_isPlace S V x0 x1 = some (r, V')) : ACt m_Slate_isPlace 2 0 0 [(aR x0), (aI x1)] S V (some (aI r)) S V' := by
  unfold f_Slate_isPlace at h
  obtain ⟨hO, h⟩ := gd_some h
  refine ACt_of (plainFor_of_name rfl) rfl (Nat.le_of_ble_eq_true rfl) ?_
  show AWk m_Slate_isPlace 2 0 0 0 0 0 [some (aR x0), some (aI x1)] [] S V (some (aI r)) S V'
  refine Ak_iload_n 1 1 (d_Slate_isPlace 0 0 (.iload_n 1) 1 rfl) rfl rfl rfl ?_
  refine Ak_if_lt 22 4 (d_Slate_isPlace 1 1 (.ifCond .lt 21) 3 rfl) rfl rfl (fun hc => ?_) (fun hc => ?_)
  · replace h := it_t hc h
    refine Ak_iconst 23 (d_Slate_isPlace 11 22 (.iconst 0) 1 rfl) rfl (rk rfl) ?_
    cases h
    exact Ak_zret (Or.inl rfl) rfl (d_Slate_isPlace 12 23 (.ireturn) 1 rfl)
  · replace h := it_f hc h
    refine Ak_iload_n 5 1 (d_Slate_isPlace 2 4 (.iload_n 1) 1 rfl) rfl rfl rfl ?_
    refine Ak_aload_n 6 0 (d_Slate_isPlace 3 5 (.aload_n 0) 1 rfl) rfl rfl rfl ?_
    refine Ak_getI 9 0 hO clX6 (by decide) (Or.inl rfl) lkF_Slate_9 (d_Slate_isPlace 4 6 (.getfield 9) 3 rfl) rfl ?_
    refine Ak_icmp_ge 22 12 (d_Slate_isPlace 5 9 (.if_icmp .ge 13) 3 rfl) rfl rfl (fun hc => ?_) (fun hc => ?_)
    · replace h := it_t hc h
      refine Ak_iconst 23 (d_Slate_isPlace 11 22 (.iconst 0) 1 rfl) rfl (rk rfl) ?_
      cases h
      exact Ak_zret (Or.inl rfl) rfl (d_Slate_isPlace 12 23 (.ireturn) 1 rfl)
    · replace h := it_f hc h
      refine Ak_iload_n 13 1 (d_Slate_isPlace 6 12 (.iload_n 1) 1 rfl) rfl rfl rfl ?_
      refine Ak_bipush 15 (d_Slate_isPlace 7 13 (.bipush 12) 2 rfl) rfl (bp_ok rfl) (rk rfl) ?_
      refine Ak_icmp_ge 22 18 (d_Slate_isPlace 8 15 (.if_icmp .ge 7) 3 rfl) rfl rfl (fun hc => ?_) (fun hc => ?_)
      · replace h := it_t hc h
        refine Ak_iconst 23 (d_Slate_isPlace 11 22 (.iconst 0) 1 rfl) rfl (rk rfl) ?_
        cases h
        exact Ak_zret (Or.inl rfl) rfl (d_Slate_isPlace 12 23 (.ireturn) 1 rfl)
      · replace h := it_f hc h
        refine Ak_iconst 19 (d_Slate_isPlace 9 18 (.iconst 1) 1 rfl) rfl (rk rfl) ?_
        refine Ak_goto 23 (d_Slate_isPlace 10 19 (.goto 4) 3 rfl) rfl ?_
        cases h
        exact Ak_zret (Or.inr rfl) rfl (d_Slate_isPlace 12 23 (.ireturn) 1 rfl)
theorem c_Slate_packedAt {S : ASh} {V : ASt} {x0 x1 : Int} {r : Int} {V' : ASt} (h : f_Slate_packedAt S V x0 x1 = some (r, V')) : ACt m_Slate_packedAt 3 0 0 [(aR x0), (aI x1)] S V (some (aI r)) S V' := by
  unfold f_Slate_packedAt at h
  obtain ⟨hO, h⟩ := gd_some h
  refine ACt_of (plainFor_of_name rfl) rfl (Nat.le_of_ble_eq_true rfl) ?_
  show AWk m_Slate_packedAt 3 0 0 0 0 0 [some (aR x0), some (aI x1)] [] S V (some (aI r)) S V'
  refine Ak_aload_n 1 0 (d_Slate_packedAt 0 0 (.aload_n 0) 1 rfl) rfl rfl rfl ?_
  refine Ak_iload_n 2 1 (d_Slate_packedAt 1 1 (.iload_n 1) 1 rfl) rfl rfl rfl ?_
  obtain ⟨r1, V2, h3, h⟩ := bnd_some h
  refine Ak_cV1 5 2 (c_Slate_isPlace h3) rfl hO clX6 rfl mok_Slate_isPlace lkM_Slate_42 (d_Slate_packedAt 2 2 (.invokevirtual 42) 3 rfl) rfl (by decide) (Nat.le_of_ble_eq_true rfl) ?_
  refine Ak_if_eq 17 8 (d_Slate_packedAt 3 5 (.ifCond .eq 12) 3 rfl) rfl rfl (fun hc => ?_) (fun hc => ?_)
  · replace h := it_t hc h
    refine Ak_iconst 18 (d_Slate_packedAt 9 17 (.iconst 0) 1 rfl) rfl (rk rfl) ?_
    cases h
    exact Ak_iret rfl (d_Slate_packedAt 10 18 (.ireturn) 1 rfl)
  · replace h := it_f hc h
    refine Ak_aload_n 9 0 (d_Slate_packedAt 4 8 (.aload_n 0) 1 rfl) rfl rfl rfl ?_
    refine Ak_getF 12 1 hO clX6 (by decide) rfl lkF_Slate_15 (d_Slate_packedAt 5 9 (.getfield 15) 3 rfl) rfl ?_
    refine Ak_iload_n 13 1 (d_Slate_packedAt 6 12 (.iload_n 1) 1 rfl) rfl rfl rfl ?_
    obtain ⟨ha4, h⟩ := gd_some h
    refine Ak_iaload 14 ha4 (d_Slate_packedAt 7 13 (.iaload) 1 rfl) rfl ?_
    refine Ak_goto 18 (d_Slate_packedAt 8 14 (.goto 4) 3 rfl) rfl ?_
    cases h
    exact Ak_iret rfl (d_Slate_packedAt 10 18 (.ireturn) 1 rfl)
theorem c_Slate_setPacked {S : ASh} {V : ASt} {x0 x1 x2 : Int} {r : Int} {V' : ASt} (h : f_Slate_setPacked S V x0 x1 x2 = some (r, V')) : ACt m_Slate_setPacked 3 0 0 [(aR x0), (aI x1), (aI x2)] S V none S V' := by
  unfold f_Slate_setPacked at h
  obtain ⟨hO, h⟩ := gd_some h
  refine ACt_of (plainFor_of_name rfl) rfl (Nat.le_of_ble_eq_true rfl) ?_
  show AWk m_Slate_setPacked 3 0 0 0 0 0 [some (aR x0), some (aI x1), some (aI x2)] [] S V none S V'
  refine Ak_aload_n 1 0 (d_Slate_setPacked 0 0 (.aload_n 0) 1 rfl) rfl rfl rfl ?_
  refine Ak_iload_n 2 1 (d_Slate_setPacked 1 1 (.iload_n 1) 1 rfl) rfl rfl rfl ?_
  obtain ⟨r1, V2, h3, h⟩ := bnd_some h
  refine Ak_cV1 5 2 (c_Slate_isPlace h3) rfl hO clX6 rfl mok_Slate_isPlace lkM_Slate_42 (d_Slate_setPacked 2 2 (.invokevirtual 42) 3 rfl) rfl (by decide) (Nat.le_of_ble_eq_true rfl) ?_
  refine Ak_if_eq 15 8 (d_Slate_setPacked 3 5 (.ifCond .eq 10) 3 rfl) rfl rfl (fun hc => ?_) (fun hc => ?_)
  · replace h := it_t hc h
    cases h
    exact Ak_vret rfl (d_Slate_setPacked 9 15 (.return_) 1 rfl)
  · replace h := it_f hc h
    refine Ak_aload_n 9 0 (d_Slate_setPacked 4 8 (.aload_n 0) 1 rfl) rfl rfl rfl ?_
    refine Ak_getF 12 1 hO clX6 (by decide) rfl lkF_Slate_15 (d_Slate_setPacked 5 9 (.getfield 15) 3 rfl) rfl ?_
    refine Ak_iload_n 13 1 (d_Slate_setPacked 6 12 (.iload_n 1) 1 rfl) rfl rfl rfl ?_
    refine Ak_iload_n 14 2 (d_Slate_setPacked 7 13 (.iload_n 2) 1 rfl) rfl rfl rfl ?_
    obtain ⟨ha4, h⟩ := gd_some h
    refine Ak_iastore 15 ha4 (d_Slate_setPacked 8 14 (.iastore) 1 rfl) rfl (fun V5 hV5 => ?_)
    replace h := wV_some h V5 hV5
    cases h
    exact Ak_vret rfl (d_Slate_setPacked 9 15 (.return_) 1 rfl)
theorem c_Slate_ruleAt {S : ASh} {V : ASt} {x0 x1 : Int} {r : Int} {V' : ASt} (h : f_Slate_ruleAt S V x0 x1 = some (r, V')) : ACt m_Slate_ruleAt 4 0 0 [(aR x0), (aI x1)] S V (some (aI r)) S V' := by
  unfold f_Slate_ruleAt at h
  obtain ⟨hO, h⟩ := gd_some h
  refine ACt_of (plainFor_of_name rfl) rfl (Nat.le_of_ble_eq_true rfl) ?_
  show AWk m_Slate_ruleAt 4 0 0 0 0 0 [some (aR x0), some (aI x1)] [] S V (some (aI r)) S V'
  refine Ak_aload_n 1 0 (d_Slate_ruleAt 0 0 (.aload_n 0) 1 rfl) rfl rfl rfl ?_
  refine Ak_iload_n 2 1 (d_Slate_ruleAt 1 1 (.iload_n 1) 1 rfl) rfl rfl rfl ?_
  obtain ⟨r1, V2, h3, h⟩ := bnd_some h
  refine Ak_cV1 5 3 (c_Slate_packedAt h3) rfl hO clX6 rfl mok_Slate_packedAt lkM_Slate_46 (d_Slate_ruleAt 2 2 (.invokevirtual 46) 3 rfl) rfl (by decide) (Nat.le_of_ble_eq_true rfl) ?_
  refine Ak_iconst 6 (d_Slate_ruleAt 3 5 (.iconst 4) 1 rfl) rfl (rk rfl) ?_
  refine Ak_ishr 7 (d_Slate_ruleAt 4 6 (.ishr) 1 rfl) rfl ?_
  cases h
  exact Ak_iret rfl (d_Slate_ruleAt 5 7 (.ireturn) 1 rfl)
theorem c_Slate_flagsAt {S : ASh} {V : ASt} {x0 x1 : Int} {r : Int} {V' : ASt} (h : f_Slate_flagsAt S V x0 x1 = some (r, V')) : ACt m_Slate_flagsAt 4 0 0 [(aR x0), (aI x1)] S V (some (aI r)) S V' := by
  unfold f_Slate_flagsAt at h
  obtain ⟨hO, h⟩ := gd_some h
  refine ACt_of (plainFor_of_name rfl) rfl (Nat.le_of_ble_eq_true rfl) ?_
  show AWk m_Slate_flagsAt 4 0 0 0 0 0 [some (aR x0), some (aI x1)] [] S V (some (aI r)) S V'
  refine Ak_aload_n 1 0 (d_Slate_flagsAt 0 0 (.aload_n 0) 1 rfl) rfl rfl rfl ?_
  refine Ak_iload_n 2 1 (d_Slate_flagsAt 1 1 (.iload_n 1) 1 rfl) rfl rfl rfl ?_
  obtain ⟨r1, V2, h3, h⟩ := bnd_some h
  refine Ak_cV1 5 3 (c_Slate_packedAt h3) rfl hO clX6 rfl mok_Slate_packedAt lkM_Slate_46 (d_Slate_flagsAt 2 2 (.invokevirtual 46) 3 rfl) rfl (by decide) (Nat.le_of_ble_eq_true rfl) ?_
  refine Ak_iconst 6 (d_Slate_flagsAt 3 5 (.iconst 3) 1 rfl) rfl (rk rfl) ?_
  refine Ak_iand 7 (d_Slate_flagsAt 4 6 (.iand) 1 rfl) rfl ?_
  cases h
  exact Ak_iret rfl (d_Slate_flagsAt 5 7 (.ireturn) 1 rfl)
theorem c_Slate_setPlace {S : ASh} {V : ASt} {x0 x1 x2 x3 x4 : Int} {r : Int} {V' : ASt} (h : f_Slate_setPlace S V x0 x1 x2 x3 x4 = some (r, V')) : ACt m_Slate_setPlace 4 0 0 [(aR x0), (aI x1), (aI x2), (aI x3), (aI x4)] S V none S V' := by
  unfold f_Slate_setPlace at h
  obtain ⟨hO, h⟩ := gd_some h
  refine ACt_of (plainFor_of_name rfl) rfl (Nat.le_of_ble_eq_true rfl) ?_
  show AWk m_Slate_setPlace 4 0 0 0 0 0 [some (aR x0), some (aI x1), some (aI x2), some (aI x3), some (aI x4)] [] S V none S V'
  refine Ak_aload_n 1 0 (d_Slate_setPlace 0 0 (.aload_n 0) 1 rfl) rfl rfl rfl ?_
  refine Ak_iload_n 2 1 (d_Slate_setPlace 1 1 (.iload_n 1) 1 rfl) rfl rfl rfl ?_
  refine Ak_iload_n 3 2 (d_Slate_setPlace 2 2 (.iload_n 2) 1 rfl) rfl rfl rfl ?_
  refine Ak_bipush 5 (d_Slate_setPlace 3 3 (.bipush 16) 2 rfl) rfl (bp_ok rfl) (rk rfl) ?_
  refine Ak_imul 6 (d_Slate_setPlace 4 5 (.imul) 1 rfl) rfl ?_
  refine Ak_iload 8 (d_Slate_setPlace 5 6 (.iload 4) 2 rfl) rfl rfl ?_
  refine Ak_iconst 9 (d_Slate_setPlace 6 8 (.iconst 4) 1 rfl) rfl (rk rfl) ?_
  refine Ak_imul 10 (d_Slate_setPlace 7 9 (.imul) 1 rfl) rfl ?_
  refine Ak_iadd 11 (d_Slate_setPlace 8 10 (.iadd) 1 rfl) rfl ?_
  refine Ak_iload_n 12 3 (d_Slate_setPlace 9 11 (.iload_n 3) 1 rfl) rfl rfl rfl ?_
  refine Ak_iadd 13 (d_Slate_setPlace 10 12 (.iadd) 1 rfl) rfl ?_
  obtain ⟨r1, V2, h3, h⟩ := bnd_some h
  refine Ak_cV0 16 3 (c_Slate_setPacked h3) rfl hO clX6 rfl mok_Slate_setPacked lkM_Slate_38 (d_Slate_setPlace 11 13 (.invokevirtual 38) 3 rfl) rfl (by decide) (Nat.le_of_ble_eq_true rfl) ?_
  cases h
  exact Ak_vret rfl (d_Slate_setPlace 12 16 (.return_) 1 rfl)
theorem c_Slate_apply {S : ASh} {V : ASt} {x0 x1 : Int} {r : Int} {V' : ASt} (h : f_Slate_apply S V x0 x1 = some (r, V')) : ACt m_Slate_apply 5 0 0 [(aR x0), (aI x1)] S V none S V' := by
  unfold f_Slate_apply at h
  obtain ⟨hO, h⟩ := gd_some h
  refine ACt_of (plainFor_of_name rfl) rfl (Nat.le_of_ble_eq_true rfl) ?_
  show AWk m_Slate_apply 5 0 0 0 0 0 [some (aR x0), some (aI x1)] [] S V none S V'
  refine Ak_iload_n 1 1 (d_Slate_apply 0 0 (.iload_n 1) 1 rfl) rfl rfl rfl ?_
  refine Ak_bipush 3 (d_Slate_apply 1 1 (.bipush 6) 2 rfl) rfl (bp_ok rfl) (rk rfl) ?_
  refine Ak_idiv 4 (d_Slate_apply 2 3 (.idiv) 1 rfl) rfl (by decide) ?_
  refine Ak_istore_n 5 2 (d_Slate_apply 3 4 (.istore_n 2) 1 rfl) rfl rfl (by decide) ?_
  refine Ak_iload_n 6 1 (d_Slate_apply 4 5 (.iload_n 1) 1 rfl) rfl rfl rfl ?_
  refine Ak_bipush 8 (d_Slate_apply 5 6 (.bipush 6) 2 rfl) rfl (bp_ok rfl) (rk rfl) ?_
  refine Ak_irem 9 (d_Slate_apply 6 8 (.irem) 1 rfl) rfl (by decide) ?_
  refine Ak_istore_n 10 3 (d_Slate_apply 7 9 (.istore_n 3) 1 rfl) rfl rfl (by decide) ?_
  refine Ak_aload_n 11 0 (d_Slate_apply 8 10 (.aload_n 0) 1 rfl) rfl rfl rfl ?_
  refine Ak_iload_n 12 2 (d_Slate_apply 9 11 (.iload_n 2) 1 rfl) rfl rfl rfl ?_
  obtain ⟨r1, V2, h3, h⟩ := bnd_some h
  refine Ak_cV1 15 3 (c_Slate_packedAt h3) rfl hO clX6 rfl mok_Slate_packedAt lkM_Slate_46 (d_Slate_apply 10 12 (.invokevirtual 46) 3 rfl) rfl (by decide) (Nat.le_of_ble_eq_true rfl) ?_
  refine Ak_istore 17 (d_Slate_apply 11 15 (.istore 4) 2 rfl) rfl (by decide) ?_
  refine Ak_iload_n 18 3 (d_Slate_apply 12 17 (.iload_n 3) 1 rfl) rfl rfl rfl ?_
  refine Ak_if_ne 33 21 (d_Slate_apply 13 18 (.ifCond .ne 15) 3 rfl) rfl rfl (fun hc => ?_) (fun hc => ?_)
  · replace h := it_f hc h
    refine Ak_iload_n 34 3 (d_Slate_apply 21 33 (.iload_n 3) 1 rfl) rfl rfl rfl ?_
    refine Ak_iconst 35 (d_Slate_apply 22 34 (.iconst 1) 1 rfl) rfl (rk rfl) ?_
    refine Ak_icmp_ne 50 38 (d_Slate_apply 23 35 (.if_icmp .ne 15) 3 rfl) rfl rfl (fun hc => ?_) (fun hc => ?_)
    · replace h := it_f hc h
      refine Ak_iload_n 51 3 (d_Slate_apply 31 50 (.iload_n 3) 1 rfl) rfl rfl rfl ?_
      refine Ak_iconst 52 (d_Slate_apply 32 51 (.iconst 5) 1 rfl) rfl (rk rfl) ?_
      refine Ak_icmp_ne 79 55 (d_Slate_apply 33 52 (.if_icmp .ne 27) 3 rfl) rfl rfl (fun hc => ?_) (fun hc => ?_)
      · replace h := it_f hc h
        refine Ak_aload_n 80 0 (d_Slate_apply 49 79 (.aload_n 0) 1 rfl) rfl rfl rfl ?_
        refine Ak_iload_n 81 2 (d_Slate_apply 50 80 (.iload_n 2) 1 rfl) rfl rfl rfl ?_
        refine Ak_aload_n 82 0 (d_Slate_apply 51 81 (.aload_n 0) 1 rfl) rfl rfl rfl ?_
        refine Ak_iload_n 83 2 (d_Slate_apply 52 82 (.iload_n 2) 1 rfl) rfl rfl rfl ?_
        obtain ⟨r4, V5, h6, h⟩ := bnd_some h
        refine Ak_cV1 86 4 (c_Slate_ruleAt h6) rfl hO clX6 rfl mok_Slate_ruleAt lkM_Slate_59 (d_Slate_apply 53 83 (.invokevirtual 59) 3 rfl) rfl (by decide) (Nat.le_of_ble_eq_true rfl) ?_
        refine Ak_aload_n 87 0 (d_Slate_apply 54 86 (.aload_n 0) 1 rfl) rfl rfl rfl ?_
        refine Ak_iload_n 88 2 (d_Slate_apply 55 87 (.iload_n 2) 1 rfl) rfl rfl rfl ?_
        obtain ⟨r7, V8, h9, h⟩ := bnd_some h
        refine Ak_cV1 91 4 (c_Slate_flagsAt h9) rfl hO clX6 rfl mok_Slate_flagsAt lkM_Slate_68 (d_Slate_apply 56 88 (.invokevirtual 68) 3 rfl) rfl (by decide) (Nat.le_of_ble_eq_true rfl) ?_
        refine Ak_iload_n 92 3 (d_Slate_apply 57 91 (.iload_n 3) 1 rfl) rfl rfl rfl ?_
        refine Ak_iconst 93 (d_Slate_apply 58 92 (.iconst 1) 1 rfl) rfl (rk rfl) ?_
        refine Ak_isub 94 (d_Slate_apply 59 93 (.isub) 1 rfl) rfl ?_
        obtain ⟨r10, V11, h12, h⟩ := bnd_some h
        refine Ak_cV0 97 4 (c_Slate_setPlace h12) rfl hO clX6 rfl mok_Slate_setPlace lkM_Slate_28 (d_Slate_apply 60 94 (.invokevirtual 28) 3 rfl) rfl (by decide) (Nat.le_of_ble_eq_true rfl) ?_
        cases h
        exact Ak_vret rfl (d_Slate_apply 61 97 (.return_) 1 rfl)
      · replace h := it_t hc h
        refine Ak_aload_n 56 0 (d_Slate_apply 34 55 (.aload_n 0) 1 rfl) rfl rfl rfl ?_
        refine Ak_iload_n 57 2 (d_Slate_apply 35 56 (.iload_n 2) 1 rfl) rfl rfl rfl ?_
        refine Ak_aload_n 58 0 (d_Slate_apply 36 57 (.aload_n 0) 1 rfl) rfl rfl rfl ?_
        refine Ak_iload_n 59 2 (d_Slate_apply 37 58 (.iload_n 2) 1 rfl) rfl rfl rfl ?_
        refine Ak_iconst 60 (d_Slate_apply 38 59 (.iconst 1) 1 rfl) rfl (rk rfl) ?_
        refine Ak_iadd 61 (d_Slate_apply 39 60 (.iadd) 1 rfl) rfl ?_
        obtain ⟨r13, V14, h15, h⟩ := bnd_some h
        refine Ak_cV1 64 3 (c_Slate_packedAt h15) rfl hO clX6 rfl mok_Slate_packedAt lkM_Slate_46 (d_Slate_apply 40 61 (.invokevirtual 46) 3 rfl) rfl (by decide) (Nat.le_of_ble_eq_true rfl) ?_
        obtain ⟨r16, V17, h18, h⟩ := bnd_some h
        refine Ak_cV0 67 3 (c_Slate_setPacked h18) rfl hO clX6 rfl mok_Slate_setPacked lkM_Slate_38 (d_Slate_apply 41 64 (.invokevirtual 38) 3 rfl) rfl (by decide) (Nat.le_of_ble_eq_true rfl) ?_
        refine Ak_aload_n 68 0 (d_Slate_apply 42 67 (.aload_n 0) 1 rfl) rfl rfl rfl ?_
        refine Ak_iload_n 69 2 (d_Slate_apply 43 68 (.iload_n 2) 1 rfl) rfl rfl rfl ?_
        refine Ak_iconst 70 (d_Slate_apply 44 69 (.iconst 1) 1 rfl) rfl (rk rfl) ?_
        refine Ak_iadd 71 (d_Slate_apply 45 70 (.iadd) 1 rfl) rfl ?_
        refine Ak_iload 73 (d_Slate_apply 46 71 (.iload 4) 2 rfl) rfl rfl ?_
        obtain ⟨r19, V20, h21, h⟩ := bnd_some h
        refine Ak_cV0 76 3 (c_Slate_setPacked h21) rfl hO clX6 rfl mok_Slate_setPacked lkM_Slate_38 (d_Slate_apply 47 73 (.invokevirtual 38) 3 rfl) rfl (by decide) (Nat.le_of_ble_eq_true rfl) ?_
        refine Ak_goto 97 (d_Slate_apply 48 76 (.goto 21) 3 rfl) rfl ?_
        cases h
        exact Ak_vret rfl (d_Slate_apply 61 97 (.return_) 1 rfl)
    · replace h := it_t hc h
      refine Ak_aload_n 39 0 (d_Slate_apply 24 38 (.aload_n 0) 1 rfl) rfl rfl rfl ?_
      refine Ak_iload_n 40 2 (d_Slate_apply 25 39 (.iload_n 2) 1 rfl) rfl rfl rfl ?_
      refine Ak_iload 42 (d_Slate_apply 26 40 (.iload 4) 2 rfl) rfl rfl ?_
      refine Ak_iconst 43 (d_Slate_apply 27 42 (.iconst 2) 1 rfl) rfl (rk rfl) ?_
      refine Ak_ixor 44 (d_Slate_apply 28 43 (.ixor) 1 rfl) rfl ?_
      obtain ⟨r22, V23, h24, h⟩ := bnd_some h
      refine Ak_cV0 47 3 (c_Slate_setPacked h24) rfl hO clX6 rfl mok_Slate_setPacked lkM_Slate_38 (d_Slate_apply 29 44 (.invokevirtual 38) 3 rfl) rfl (by decide) (Nat.le_of_ble_eq_true rfl) ?_
      refine Ak_goto 97 (d_Slate_apply 30 47 (.goto 50) 3 rfl) rfl ?_
      cases h
      exact Ak_vret rfl (d_Slate_apply 61 97 (.return_) 1 rfl)
  · replace h := it_t hc h
    refine Ak_aload_n 22 0 (d_Slate_apply 14 21 (.aload_n 0) 1 rfl) rfl rfl rfl ?_
    refine Ak_iload_n 23 2 (d_Slate_apply 15 22 (.iload_n 2) 1 rfl) rfl rfl rfl ?_
    refine Ak_iload 25 (d_Slate_apply 16 23 (.iload 4) 2 rfl) rfl rfl ?_
    refine Ak_iconst 26 (d_Slate_apply 17 25 (.iconst 1) 1 rfl) rfl (rk rfl) ?_
    refine Ak_ixor 27 (d_Slate_apply 18 26 (.ixor) 1 rfl) rfl ?_
    obtain ⟨r25, V26, h27, h⟩ := bnd_some h
    refine Ak_cV0 30 3 (c_Slate_setPacked h27) rfl hO clX6 rfl mok_Slate_setPacked lkM_Slate_38 (d_Slate_apply 19 27 (.invokevirtual 38) 3 rfl) rfl (by decide) (Nat.le_of_ble_eq_true rfl) ?_
    refine Ak_goto 97 (d_Slate_apply 20 30 (.goto 67) 3 rfl) rfl ?_
    cases h
    exact Ak_vret rfl (d_Slate_apply 61 97 (.return_) 1 rfl)
theorem t_History_applyTo_J45 {S : ASh} {V : ASt} {x0 x1 x2 : Int} {r : Int} {V' : ASt} (hO : isO S x0 2 = true) (h : b_History_applyTo_J45 S  V x0 x1 x2 = some (r, V')) : AWk m_History_applyTo 6 0 0 0 0 45 [some (aR x0), some (aR x1), some (aI x2)] [] S V none S V' := by
  unfold b_History_applyTo_J45 at h
  refine Ak_aload_n 46 0 (d_History_applyTo 23 45 (.aload_n 0) 1 rfl) rfl rfl rfl ?_
  refine Ak_getF 49 1 hO clX2 (by decide) rfl lkF_History_15 (d_History_applyTo 24 46 (.getfield 15) 3 rfl) rfl ?_
  refine Ak_aload_n 50 0 (d_History_applyTo 25 49 (.aload_n 0) 1 rfl) rfl rfl rfl ?_
  refine Ak_getI 53 0 hO clX2 (by decide) (Or.inl rfl) lkF_History_9 (d_History_applyTo 26 50 (.getfield 9) 3 rfl) rfl ?_
  refine Ak_iload_n 54 2 (d_History_applyTo 27 53 (.iload_n 2) 1 rfl) rfl rfl rfl ?_
  obtain ⟨ha1, h⟩ := gd_some h
  refine Ak_iastore 55 ha1 (d_History_applyTo 28 54 (.iastore) 1 rfl) rfl (fun V2 hV2 => ?_)
  replace h := wV_some h V2 hV2
  refine Ak_aload_n 56 0 (d_History_applyTo 29 55 (.aload_n 0) 1 rfl) rfl rfl rfl ?_
  refine Ak_getF 59 2 hO clX2 (by decide) rfl lkF_History_19 (d_History_applyTo 30 56 (.getfield 19) 3 rfl) rfl ?_
  refine Ak_aload_n 60 0 (d_History_applyTo 31 59 (.aload_n 0) 1 rfl) rfl rfl rfl ?_
  refine Ak_getI 63 0 hO clX2 (by decide) (Or.inl rfl) lkF_History_9 (d_History_applyTo 32 60 (.getfield 9) 3 rfl) rfl ?_
  refine Ak_aload_n 64 1 (d_History_applyTo 33 63 (.aload_n 1) 1 rfl) rfl rfl rfl ?_
  refine Ak_iload_n 65 2 (d_History_applyTo 34 64 (.iload_n 2) 1 rfl) rfl rfl rfl ?_
  refine Ak_bipush 67 (d_History_applyTo 35 65 (.bipush 6) 2 rfl) rfl (bp_ok rfl) (rk rfl) ?_
  refine Ak_idiv 68 (d_History_applyTo 36 67 (.idiv) 1 rfl) rfl (by decide) ?_
  obtain ⟨hg6, h⟩ := gd_some h
  obtain ⟨r3, V4, h5, h⟩ := bnd_some h
  refine Ak_cV1 71 3 (c_Slate_packedAt h5) rfl hg6 clX6 rfl mok_Slate_packedAt lkM_History_28 (d_History_applyTo 37 68 (.invokevirtual 28) 3 rfl) rfl (by decide) (Nat.le_of_ble_eq_true rfl) ?_
  obtain ⟨ha7, h⟩ := gd_some h
  refine Ak_iastore 72 ha7 (d_History_applyTo 38 71 (.iastore) 1 rfl) rfl (fun V8 hV8 => ?_)
  replace h := wV_some h V8 hV8
  refine Ak_aload_n 73 0 (d_History_applyTo 39 72 (.aload_n 0) 1 rfl) rfl rfl rfl ?_
  refine Ak_dup 74 (d_History_applyTo 40 73 (.dup) 1 rfl) rfl rfl ?_
  refine Ak_getI 77 0 hO clX2 (by decide) (Or.inl rfl) lkF_History_9 (d_History_applyTo 41 74 (.getfield 9) 3 rfl) rfl ?_
  refine Ak_iconst 78 (d_History_applyTo 42 77 (.iconst 1) 1 rfl) rfl (rk rfl) ?_
  refine Ak_iadd 79 (d_History_applyTo 43 78 (.iadd) 1 rfl) rfl ?_
  refine Ak_putI 82 0 hO clX2 (by decide) rfl rfl rfl lkF_History_9 (d_History_applyTo 44 79 (.putfield 9) 3 rfl) rfl (fun V9 hV9 => ?_)
  replace h := wV_some h V9 hV9
  refine Ak_aload_n 83 1 (d_History_applyTo 45 82 (.aload_n 1) 1 rfl) rfl rfl rfl ?_
  refine Ak_iload_n 84 2 (d_History_applyTo 46 83 (.iload_n 2) 1 rfl) rfl rfl rfl ?_
  obtain ⟨r10, V11, h12, h⟩ := bnd_some h
  refine Ak_cV0 87 5 (c_Slate_apply h12) rfl hg6 clX6 rfl mok_Slate_apply lkM_History_34 (d_History_applyTo 47 84 (.invokevirtual 34) 3 rfl) rfl (by decide) (Nat.le_of_ble_eq_true rfl) ?_
  cases h
  exact Ak_vret rfl (d_History_applyTo 48 87 (.return_) 1 rfl)
theorem c_History_applyTo {S : ASh} {V : ASt} {x0 x1 x2 : Int} {r : Int} {V' : ASt} (h : f_History_applyTo S V x0 x1 x2 = some (r, V')) : ACt m_History_applyTo 6 0 0 [(aR x0), (aR x1), (aI x2)] S V none S V' := by
  unfold f_History_applyTo at h
  obtain ⟨hO, h⟩ := gd_some h
  refine ACt_of (plainFor_of_name rfl) rfl (Nat.le_of_ble_eq_true rfl) ?_
  show AWk m_History_applyTo 6 0 0 0 0 0 [some (aR x0), some (aR x1), some (aI x2)] [] S V none S V'
  refine Ak_aload_n 1 0 (d_History_applyTo 0 0 (.aload_n 0) 1 rfl) rfl rfl rfl ?_
  refine Ak_getI 4 0 hO clX2 (by decide) (Or.inl rfl) lkF_History_9 (d_History_applyTo 1 1 (.getfield 9) 3 rfl) rfl ?_
  refine Ak_bipush 6 (d_History_applyTo 2 4 (.bipush 40) 2 rfl) rfl (bp_ok rfl) (rk rfl) ?_
  refine Ak_icmp_lt 45 9 (d_History_applyTo 3 6 (.if_icmp .lt 39) 3 rfl) rfl rfl (fun hc => ?_) (fun hc => ?_)
  · replace h := it_t hc h
    refine Ak_keep [true, true, true] ?_
    exact t_History_applyTo_J45 hO h
  · replace h := it_f hc h
    refine Ak_aload_n 10 0 (d_History_applyTo 4 9 (.aload_n 0) 1 rfl) rfl rfl rfl ?_
    refine Ak_getF 13 1 hO clX2 (by decide) rfl lkF_History_15 (d_History_applyTo 5 10 (.getfield 15) 3 rfl) rfl ?_
    refine Ak_iconst 14 (d_History_applyTo 6 13 (.iconst 1) 1 rfl) rfl (rk rfl) ?_
    refine Ak_aload_n 15 0 (d_History_applyTo 7 14 (.aload_n 0) 1 rfl) rfl rfl rfl ?_
    refine Ak_getF 18 1 hO clX2 (by decide) rfl lkF_History_15 (d_History_applyTo 8 15 (.getfield 15) 3 rfl) rfl ?_
    refine Ak_iconst 19 (d_History_applyTo 9 18 (.iconst 0) 1 rfl) rfl (rk rfl) ?_
    refine Ak_bipush 21 (d_History_applyTo 10 19 (.bipush 39) 2 rfl) rfl (bp_ok rfl) (rk rfl) ?_
    obtain ⟨hc14, h⟩ := gd_some h
    refine Ak_cpy 24 hc14 (d_History_applyTo 11 21 (.invokestatic 22) 3 rfl) rfl lkM_History_22 lk_copy (by decide) (Nat.le_of_ble_eq_true rfl) (fun V13 hV13 => ?_)
    replace h := wV_some h V13 hV13
    refine Ak_aload_n 25 0 (d_History_applyTo 12 24 (.aload_n 0) 1 rfl) rfl rfl rfl ?_
    refine Ak_getF 28 2 hO clX2 (by decide) rfl lkF_History_19 (d_History_applyTo 13 25 (.getfield 19) 3 rfl) rfl ?_
    refine Ak_iconst 29 (d_History_applyTo 14 28 (.iconst 1) 1 rfl) rfl (rk rfl) ?_
    refine Ak_aload_n 30 0 (d_History_applyTo 15 29 (.aload_n 0) 1 rfl) rfl rfl rfl ?_
    refine Ak_getF 33 2 hO clX2 (by decide) rfl lkF_History_19 (d_History_applyTo 16 30 (.getfield 19) 3 rfl) rfl ?_
    refine Ak_iconst 34 (d_History_applyTo 17 33 (.iconst 0) 1 rfl) rfl (rk rfl) ?_
    refine Ak_bipush 36 (d_History_applyTo 18 34 (.bipush 39) 2 rfl) rfl (bp_ok rfl) (rk rfl) ?_
    obtain ⟨hc16, h⟩ := gd_some h
    refine Ak_cpy 39 hc16 (d_History_applyTo 19 36 (.invokestatic 22) 3 rfl) rfl lkM_History_22 lk_copy (by decide) (Nat.le_of_ble_eq_true rfl) (fun V15 hV15 => ?_)
    replace h := wV_some h V15 hV15
    refine Ak_aload_n 40 0 (d_History_applyTo 20 39 (.aload_n 0) 1 rfl) rfl rfl rfl ?_
    refine Ak_bipush 42 (d_History_applyTo 21 40 (.bipush 39) 2 rfl) rfl (bp_ok rfl) (rk rfl) ?_
    refine Ak_putI 45 0 hO clX2 (by decide) rfl rfl rfl lkF_History_9 (d_History_applyTo 22 42 (.putfield 9) 3 rfl) rfl (fun V17 hV17 => ?_)
    replace h := wV_some h V17 hV17
    refine Ak_keep [true, true, true] ?_
    exact t_History_applyTo_J45 hO h
theorem c_History_takeBackFrom {S : ASh} {V : ASt} {x0 x1 : Int} {r : Int} {V' : ASt} (h : f_History_takeBackFrom S V x0 x1 = some (r, V')) : ACt m_History_takeBackFrom 6 0 0 [(aR x0), (aR x1)] S V none S V' := by
  unfold f_History_takeBackFrom at h
  obtain ⟨hO, h⟩ := gd_some h
  refine ACt_of (plainFor_of_name rfl) rfl (Nat.le_of_ble_eq_true rfl) ?_
  show AWk m_History_takeBackFrom 6 0 0 0 0 0 [some (aR x0), some (aR x1)] [] S V none S V'
  refine Ak_aload_n 1 0 (d_History_takeBackFrom 0 0 (.aload_n 0) 1 rfl) rfl rfl rfl ?_
  refine Ak_getI 4 0 hO clX2 (by decide) (Or.inl rfl) lkF_History_9 (d_History_takeBackFrom 1 1 (.getfield 9) 3 rfl) rfl ?_
  refine Ak_if_le 16 7 (d_History_takeBackFrom 2 4 (.ifCond .le 12) 3 rfl) rfl rfl (fun hc => ?_) (fun hc => ?_)
  · replace h := it_t hc h
    cases h
    exact Ak_vret rfl (d_History_takeBackFrom 7 16 (.return_) 1 rfl)
  · replace h := it_f hc h
    refine Ak_aload_n 8 0 (d_History_takeBackFrom 3 7 (.aload_n 0) 1 rfl) rfl rfl rfl ?_
    refine Ak_getI 11 0 hO clX2 (by decide) (Or.inl rfl) lkF_History_9 (d_History_takeBackFrom 4 8 (.getfield 9) 3 rfl) rfl ?_
    refine Ak_bipush 13 (d_History_takeBackFrom 5 11 (.bipush 40) 2 rfl) rfl (bp_ok rfl) (rk rfl) ?_
    refine Ak_icmp_le 17 16 (d_History_takeBackFrom 6 13 (.if_icmp .le 4) 3 rfl) rfl rfl (fun hc => ?_) (fun hc => ?_)
    · replace h := it_t hc h
      refine Ak_aload_n 18 0 (d_History_takeBackFrom 8 17 (.aload_n 0) 1 rfl) rfl rfl rfl ?_
      refine Ak_dup 19 (d_History_takeBackFrom 9 18 (.dup) 1 rfl) rfl rfl ?_
      refine Ak_getI 22 0 hO clX2 (by decide) (Or.inl rfl) lkF_History_9 (d_History_takeBackFrom 10 19 (.getfield 9) 3 rfl) rfl ?_
      refine Ak_iconst 23 (d_History_takeBackFrom 11 22 (.iconst 1) 1 rfl) rfl (rk rfl) ?_
      refine Ak_isub 24 (d_History_takeBackFrom 12 23 (.isub) 1 rfl) rfl ?_
      refine Ak_putI 27 0 hO clX2 (by decide) rfl rfl rfl lkF_History_9 (d_History_takeBackFrom 13 24 (.putfield 9) 3 rfl) rfl (fun V1 hV1 => ?_)
      replace h := wV_some h V1 hV1
      refine Ak_aload_n 28 0 (d_History_takeBackFrom 14 27 (.aload_n 0) 1 rfl) rfl rfl rfl ?_
      refine Ak_getF 31 1 hO clX2 (by decide) rfl lkF_History_15 (d_History_takeBackFrom 15 28 (.getfield 15) 3 rfl) rfl ?_
      refine Ak_aload_n 32 0 (d_History_takeBackFrom 16 31 (.aload_n 0) 1 rfl) rfl rfl rfl ?_
      refine Ak_getI 35 0 hO clX2 (by decide) (Or.inl rfl) lkF_History_9 (d_History_takeBackFrom 17 32 (.getfield 9) 3 rfl) rfl ?_
      obtain ⟨ha2, h⟩ := gd_some h
      refine Ak_iaload 36 ha2 (d_History_takeBackFrom 18 35 (.iaload) 1 rfl) rfl ?_
      refine Ak_bipush 38 (d_History_takeBackFrom 19 36 (.bipush 6) 2 rfl) rfl (bp_ok rfl) (rk rfl) ?_
      refine Ak_irem 39 (d_History_takeBackFrom 20 38 (.irem) 1 rfl) rfl (by decide) ?_
      refine Ak_iconst 40 (d_History_takeBackFrom 21 39 (.iconst 5) 1 rfl) rfl (rk rfl) ?_
      refine Ak_icmp_ne 59 43 (d_History_takeBackFrom 22 40 (.if_icmp .ne 19) 3 rfl) rfl rfl (fun hc => ?_) (fun hc => ?_)
      · replace h := it_f hc h
        refine Ak_aload_n 60 1 (d_History_takeBackFrom 31 59 (.aload_n 1) 1 rfl) rfl rfl rfl ?_
        refine Ak_aload_n 61 0 (d_History_takeBackFrom 32 60 (.aload_n 0) 1 rfl) rfl rfl rfl ?_
        refine Ak_getF 64 1 hO clX2 (by decide) rfl lkF_History_15 (d_History_takeBackFrom 33 61 (.getfield 15) 3 rfl) rfl ?_
        refine Ak_aload_n 65 0 (d_History_takeBackFrom 34 64 (.aload_n 0) 1 rfl) rfl rfl rfl ?_
        refine Ak_getI 68 0 hO clX2 (by decide) (Or.inl rfl) lkF_History_9 (d_History_takeBackFrom 35 65 (.getfield 9) 3 rfl) rfl ?_
        refine Ak_iaload 69 ha2 (d_History_takeBackFrom 36 68 (.iaload) 1 rfl) rfl ?_
        refine Ak_bipush 71 (d_History_takeBackFrom 37 69 (.bipush 6) 2 rfl) rfl (bp_ok rfl) (rk rfl) ?_
        refine Ak_idiv 72 (d_History_takeBackFrom 38 71 (.idiv) 1 rfl) rfl (by decide) ?_
        refine Ak_aload_n 73 0 (d_History_takeBackFrom 39 72 (.aload_n 0) 1 rfl) rfl rfl rfl ?_
        refine Ak_getF 76 2 hO clX2 (by decide) rfl lkF_History_19 (d_History_takeBackFrom 40 73 (.getfield 19) 3 rfl) rfl ?_
        refine Ak_aload_n 77 0 (d_History_takeBackFrom 41 76 (.aload_n 0) 1 rfl) rfl rfl rfl ?_
        refine Ak_getI 80 0 hO clX2 (by decide) (Or.inl rfl) lkF_History_9 (d_History_takeBackFrom 42 77 (.getfield 9) 3 rfl) rfl ?_
        obtain ⟨ha3, h⟩ := gd_some h
        refine Ak_iaload 81 ha3 (d_History_takeBackFrom 43 80 (.iaload) 1 rfl) rfl ?_
        obtain ⟨hg7, h⟩ := gd_some h
        obtain ⟨r4, V5, h6, h⟩ := bnd_some h
        refine Ak_cV0 84 3 (c_Slate_setPacked h6) rfl hg7 clX6 rfl mok_Slate_setPacked lkM_History_38 (d_History_takeBackFrom 44 81 (.invokevirtual 38) 3 rfl) rfl (by decide) (Nat.le_of_ble_eq_true rfl) ?_
        cases h
        exact Ak_vret rfl (d_History_takeBackFrom 45 84 (.return_) 1 rfl)
      · replace h := it_t hc h
        refine Ak_aload_n 44 1 (d_History_takeBackFrom 23 43 (.aload_n 1) 1 rfl) rfl rfl rfl ?_
        refine Ak_aload_n 45 0 (d_History_takeBackFrom 24 44 (.aload_n 0) 1 rfl) rfl rfl rfl ?_
        refine Ak_getF 48 1 hO clX2 (by decide) rfl lkF_History_15 (d_History_takeBackFrom 25 45 (.getfield 15) 3 rfl) rfl ?_
        refine Ak_aload_n 49 0 (d_History_takeBackFrom 26 48 (.aload_n 0) 1 rfl) rfl rfl rfl ?_
        refine Ak_getI 52 0 hO clX2 (by decide) (Or.inl rfl) lkF_History_9 (d_History_takeBackFrom 27 49 (.getfield 9) 3 rfl) rfl ?_
        refine Ak_iaload 53 ha2 (d_History_takeBackFrom 28 52 (.iaload) 1 rfl) rfl ?_
        obtain ⟨hg11, h⟩ := gd_some h
        obtain ⟨r8, V9, h10, h⟩ := bnd_some h
        refine Ak_cV0 56 5 (c_Slate_apply h10) rfl hg11 clX6 rfl mok_Slate_apply lkM_History_34 (d_History_takeBackFrom 29 53 (.invokevirtual 34) 3 rfl) rfl (by decide) (Nat.le_of_ble_eq_true rfl) ?_
        refine Ak_goto 84 (d_History_takeBackFrom 30 56 (.goto 28) 3 rfl) rfl ?_
        cases h
        exact Ak_vret rfl (d_History_takeBackFrom 45 84 (.return_) 1 rfl)
    · replace h := it_f hc h
      cases h
      exact Ak_vret rfl (d_History_takeBackFrom 7 16 (.return_) 1 rfl)
theorem t_Slate_takeAsTold_L10 {S : ASh} {x0 x1 : Int} (hO : isO S x0 6 = true) : ∀ (n : Nat) (V : ASt) (x2 : Int) (r : Int) (V' : ASt), b_Slate_takeAsTold_L10 S x0 x1 n V x2 = some (r, V') → AWk m_Slate_takeAsTold 5 0 0 0 0 10 [some (aR x0), some (aR x1), some (aI x2)] [] S V none S V' := by
  intro n
  induction n with
  | zero => intro V x2 r V' h; cases h
  | succ n ih =>
    intro V x2 r V' h
    replace ih : ∀ {V : ASt} {x2 : Int} {r : Int} {V' : ASt}, b_Slate_takeAsTold_L10 S x0 x1 n V x2 = some (r, V') → AWk m_Slate_takeAsTold 5 0 0 0 0 10 [some (aR x0), some (aR x1), some (aI x2)] [] S V none S V' := fun h => ih _ _ _ _ h
    rw [b_Slate_takeAsTold_L10] at h
    refine Ak_iload_n 11 2 (d_Slate_takeAsTold 6 10 (.iload_n 2) 1 rfl) rfl rfl rfl ?_
    refine Ak_aload_n 12 0 (d_Slate_takeAsTold 7 11 (.aload_n 0) 1 rfl) rfl rfl rfl ?_
    refine Ak_getI 15 0 hO clX6 (by decide) (Or.inl rfl) lkF_Slate_9 (d_Slate_takeAsTold 8 12 (.getfield 9) 3 rfl) rfl ?_
    refine Ak_icmp_ge 42 18 (d_Slate_takeAsTold 9 15 (.if_icmp .ge 27) 3 rfl) rfl rfl (fun hc => ?_) (fun hc => ?_)
    · replace h := it_t hc h
      cases h
      exact Ak_vret rfl (d_Slate_takeAsTold 23 42 (.return_) 1 rfl)
    · replace h := it_f hc h
      refine Ak_iload_n 19 2 (d_Slate_takeAsTold 10 18 (.iload_n 2) 1 rfl) rfl rfl rfl ?_
      refine Ak_bipush 21 (d_Slate_takeAsTold 11 19 (.bipush 12) 2 rfl) rfl (bp_ok rfl) (rk rfl) ?_
      refine Ak_icmp_ge 42 24 (d_Slate_takeAsTold 12 21 (.if_icmp .ge 21) 3 rfl) rfl rfl (fun hc => ?_) (fun hc => ?_)
      · replace h := it_t hc h
        cases h
        exact Ak_vret rfl (d_Slate_takeAsTold 23 42 (.return_) 1 rfl)
      · replace h := it_f hc h
        refine Ak_aload_n 25 0 (d_Slate_takeAsTold 13 24 (.aload_n 0) 1 rfl) rfl rfl rfl ?_
        refine Ak_iload_n 26 2 (d_Slate_takeAsTold 14 25 (.iload_n 2) 1 rfl) rfl rfl rfl ?_
        refine Ak_iload_n 27 2 (d_Slate_takeAsTold 15 26 (.iload_n 2) 1 rfl) rfl rfl rfl ?_
        refine Ak_iconst 28 (d_Slate_takeAsTold 16 27 (.iconst 0) 1 rfl) rfl (rk rfl) ?_
        refine Ak_aload_n 29 1 (d_Slate_takeAsTold 17 28 (.aload_n 1) 1 rfl) rfl rfl rfl ?_
        refine Ak_iload_n 30 2 (d_Slate_takeAsTold 18 29 (.iload_n 2) 1 rfl) rfl rfl rfl ?_
        obtain ⟨hg4, h⟩ := gd_some h
        obtain ⟨r1, V2, h3, h⟩ := bnd_some h
        refine Ak_cV1 33 3 (c_Game_stepOf h3) rfl hg4 clX1 rfl mok_Game_stepOf lkM_Slate_24 (d_Slate_takeAsTold 19 30 (.invokevirtual 24) 3 rfl) rfl (by decide) (Nat.le_of_ble_eq_true rfl) ?_
        obtain ⟨r5, V6, h7, h⟩ := bnd_some h
        refine Ak_cV0 36 4 (c_Slate_setPlace h7) rfl hO clX6 rfl mok_Slate_setPlace lkM_Slate_28 (d_Slate_takeAsTold 20 33 (.invokevirtual 28) 3 rfl) rfl (by decide) (Nat.le_of_ble_eq_true rfl) ?_
        refine Ak_iinc 39 (d_Slate_takeAsTold 21 36 (.iinc 2 1) 3 rfl) rfl rfl (by decide) ?_
        refine Ak_goto 10 (d_Slate_takeAsTold 22 39 (.goto (-29)) 3 rfl) rfl ?_
        refine Ak_keep [true, true, true] ?_
        exact ih h
theorem c_Slate_takeAsTold {S : ASh} {V : ASt} {x0 x1 : Int} {r : Int} {V' : ASt} (h : f_Slate_takeAsTold S V x0 x1 = some (r, V')) : ACt m_Slate_takeAsTold 5 0 0 [(aR x0), (aR x1)] S V none S V' := by
  unfold f_Slate_takeAsTold at h
  obtain ⟨hO, h⟩ := gd_some h
  refine ACt_of (plainFor_of_name rfl) rfl (Nat.le_of_ble_eq_true rfl) ?_
  show AWk m_Slate_takeAsTold 5 0 0 0 0 0 [some (aR x0), some (aR x1)] [] S V none S V'
  refine Ak_aload_n 1 0 (d_Slate_takeAsTold 0 0 (.aload_n 0) 1 rfl) rfl rfl rfl ?_
  refine Ak_aload_n 2 1 (d_Slate_takeAsTold 1 1 (.aload_n 1) 1 rfl) rfl rfl rfl ?_
  obtain ⟨hg8, h⟩ := gd_some h
  refine Ak_getI 5 2 hg8 clX1 (by decide) (Or.inl rfl) lkF_Slate_19 (d_Slate_takeAsTold 2 2 (.getfield 19) 3 rfl) rfl ?_
  refine Ak_putI 8 0 hO clX6 (by decide) rfl rfl rfl lkF_Slate_9 (d_Slate_takeAsTold 3 5 (.putfield 9) 3 rfl) rfl (fun V9 hV9 => ?_)
  replace h := wV_some h V9 hV9
  refine Ak_iconst 9 (d_Slate_takeAsTold 4 8 (.iconst 0) 1 rfl) rfl (rk rfl) ?_
  refine Ak_istore_n 10 2 (d_Slate_takeAsTold 5 9 (.istore_n 2) 1 rfl) rfl rfl (by decide) ?_
  refine Ak_keep [true, true, true] ?_
  exact t_Slate_takeAsTold_L10 hO FU _ _ _ _ h
theorem c_Slate_copyFrom {S : ASh} {V : ASt} {x0 x1 : Int} {r : Int} {V' : ASt} (h : f_Slate_copyFrom S V x0 x1 = some (r, V')) : ACt m_Slate_copyFrom 2 0 0 [(aR x0), (aR x1)] S V none S V' := by
  unfold f_Slate_copyFrom at h
  obtain ⟨hO, h⟩ := gd_some h
  refine ACt_of (plainFor_of_name rfl) rfl (Nat.le_of_ble_eq_true rfl) ?_
  show AWk m_Slate_copyFrom 2 0 0 0 0 0 [some (aR x0), some (aR x1)] [] S V none S V'
  refine Ak_aload_n 1 0 (d_Slate_copyFrom 0 0 (.aload_n 0) 1 rfl) rfl rfl rfl ?_
  refine Ak_aload_n 2 1 (d_Slate_copyFrom 1 1 (.aload_n 1) 1 rfl) rfl rfl rfl ?_
  obtain ⟨hg1, h⟩ := gd_some h
  refine Ak_getI 5 0 hg1 clX6 (by decide) (Or.inl rfl) lkF_Slate_9 (d_Slate_copyFrom 2 2 (.getfield 9) 3 rfl) rfl ?_
  refine Ak_putI 8 0 hO clX6 (by decide) rfl rfl rfl lkF_Slate_9 (d_Slate_copyFrom 3 5 (.putfield 9) 3 rfl) rfl (fun V2 hV2 => ?_)
  replace h := wV_some h V2 hV2
  refine Ak_aload_n 9 1 (d_Slate_copyFrom 4 8 (.aload_n 1) 1 rfl) rfl rfl rfl ?_
  refine Ak_getF 12 1 hg1 clX6 (by decide) rfl lkF_Slate_15 (d_Slate_copyFrom 5 9 (.getfield 15) 3 rfl) rfl ?_
  refine Ak_iconst 13 (d_Slate_copyFrom 6 12 (.iconst 0) 1 rfl) rfl (rk rfl) ?_
  refine Ak_aload_n 14 0 (d_Slate_copyFrom 7 13 (.aload_n 0) 1 rfl) rfl rfl rfl ?_
  refine Ak_getF 17 1 hO clX6 (by decide) rfl lkF_Slate_15 (d_Slate_copyFrom 8 14 (.getfield 15) 3 rfl) rfl ?_
  refine Ak_iconst 18 (d_Slate_copyFrom 9 17 (.iconst 0) 1 rfl) rfl (rk rfl) ?_
  refine Ak_bipush 20 (d_Slate_copyFrom 10 18 (.bipush 12) 2 rfl) rfl (bp_ok rfl) (rk rfl) ?_
  obtain ⟨hc4, h⟩ := gd_some h
  refine Ak_cpy 23 hc4 (d_Slate_copyFrom 11 20 (.invokestatic 32) 3 rfl) rfl lkM_Slate_32 lk_copy (by decide) (Nat.le_of_ble_eq_true rfl) (fun V3 hV3 => ?_)
  replace h := wV_some h V3 hV3
  cases h
  exact Ak_vret rfl (d_Slate_copyFrom 12 23 (.return_) 1 rfl)
theorem t_Slate_isLike_L19 {S : ASh} {x0 x1 : Int} (hO : isO S x0 6 = true) : ∀ (n : Nat) (V : ASt) (x2 x3 : Int) (r : Int) (V' : ASt), b_Slate_isLike_L19 S x0 x1 n V x2 x3 = some (r, V') → AWk m_Slate_isLike 2 0 0 0 0 19 [some (aR x0), some (aR x1), some (aI x2), some (aI x3)] [] S V (some (aI r)) S V' := by
  intro n
  induction n with
  | zero => intro V x2 x3 r V' h; cases h
  | succ n ih =>
    intro V x2 x3 r V' h
    replace ih : ∀ {V : ASt} {x2 x3 : Int} {r : Int} {V' : ASt}, b_Slate_isLike_L19 S x0 x1 n V x2 x3 = some (r, V') → AWk m_Slate_isLike 2 0 0 0 0 19 [some (aR x0), some (aR x1), some (aI x2), some (aI x3)] [] S V (some (aI r)) S V' := fun h => ih _ _ _ _ _ h
    rw [b_Slate_isLike_L19] at h
    refine Ak_iload_n 20 3 (d_Slate_isLike 11 19 (.iload_n 3) 1 rfl) rfl rfl rfl ?_
    refine Ak_aload_n 21 0 (d_Slate_isLike 12 20 (.aload_n 0) 1 rfl) rfl rfl rfl ?_
    refine Ak_getI 24 0 hO clX6 (by decide) (Or.inl rfl) lkF_Slate_9 (d_Slate_isLike 13 21 (.getfield 9) 3 rfl) rfl ?_
    refine Ak_icmp_ge 64 27 (d_Slate_isLike 14 24 (.if_icmp .ge 40) 3 rfl) rfl rfl (fun hc => ?_) (fun hc => ?_)
    · replace h := it_t hc h
      refine Ak_iload_n 65 2 (d_Slate_isLike 35 64 (.iload_n 2) 1 rfl) rfl rfl rfl ?_
      obtain ⟨hb1, h⟩ := gd_some h
      cases h
      exact Ak_zret (dec_t hb1) rfl (d_Slate_isLike 36 65 (.ireturn) 1 rfl)
    · replace h := it_f hc h
      refine Ak_iload_n 28 3 (d_Slate_isLike 15 27 (.iload_n 3) 1 rfl) rfl rfl rfl ?_
      refine Ak_bipush 30 (d_Slate_isLike 16 28 (.bipush 12) 2 rfl) rfl (bp_ok rfl) (rk rfl) ?_
      refine Ak_icmp_ge 64 33 (d_Slate_isLike 17 30 (.if_icmp .ge 34) 3 rfl) rfl rfl (fun hc => ?_) (fun hc => ?_)
      · replace h := it_t hc h
        refine Ak_iload_n 65 2 (d_Slate_isLike 35 64 (.iload_n 2) 1 rfl) rfl rfl rfl ?_
        obtain ⟨hb2, h⟩ := gd_some h
        cases h
        exact Ak_zret (dec_t hb2) rfl (d_Slate_isLike 36 65 (.ireturn) 1 rfl)
      · replace h := it_f hc h
        refine Ak_iload_n 34 2 (d_Slate_isLike 18 33 (.iload_n 2) 1 rfl) rfl rfl rfl ?_
        refine Ak_if_eq 64 37 (d_Slate_isLike 19 34 (.ifCond .eq 30) 3 rfl) rfl rfl (fun hc => ?_) (fun hc => ?_)
        · replace h := it_t hc h
          refine Ak_iload_n 65 2 (d_Slate_isLike 35 64 (.iload_n 2) 1 rfl) rfl rfl rfl ?_
          obtain ⟨hb3, h⟩ := gd_some h
          cases h
          exact Ak_zret (dec_t hb3) rfl (d_Slate_isLike 36 65 (.ireturn) 1 rfl)
        · replace h := it_f hc h
          refine Ak_aload_n 38 0 (d_Slate_isLike 20 37 (.aload_n 0) 1 rfl) rfl rfl rfl ?_
          refine Ak_getF 41 1 hO clX6 (by decide) rfl lkF_Slate_15 (d_Slate_isLike 21 38 (.getfield 15) 3 rfl) rfl ?_
          refine Ak_iload_n 42 3 (d_Slate_isLike 22 41 (.iload_n 3) 1 rfl) rfl rfl rfl ?_
          obtain ⟨ha4, h⟩ := gd_some h
          refine Ak_iaload 43 ha4 (d_Slate_isLike 23 42 (.iaload) 1 rfl) rfl ?_
          refine Ak_aload_n 44 1 (d_Slate_isLike 24 43 (.aload_n 1) 1 rfl) rfl rfl rfl ?_
          obtain ⟨hg5, h⟩ := gd_some h
          refine Ak_getF 47 1 hg5 clX6 (by decide) rfl lkF_Slate_15 (d_Slate_isLike 25 44 (.getfield 15) 3 rfl) rfl ?_
          refine Ak_iload_n 48 3 (d_Slate_isLike 26 47 (.iload_n 3) 1 rfl) rfl rfl rfl ?_
          obtain ⟨ha6, h⟩ := gd_some h
          refine Ak_iaload 49 ha6 (d_Slate_isLike 27 48 (.iaload) 1 rfl) rfl ?_
          refine Ak_icmp_ne 56 52 (d_Slate_isLike 28 49 (.if_icmp .ne 7) 3 rfl) rfl rfl (fun hc => ?_) (fun hc => ?_)
          · replace h := it_f hc h
            refine Ak_iconst 57 (d_Slate_isLike 31 56 (.iconst 0) 1 rfl) rfl (rk rfl) ?_
            refine Ak_istore_n 58 2 (d_Slate_isLike 32 57 (.istore_n 2) 1 rfl) rfl rfl (by decide) ?_
            refine Ak_iinc 61 (d_Slate_isLike 33 58 (.iinc 3 1) 3 rfl) rfl rfl (by decide) ?_
            refine Ak_goto 19 (d_Slate_isLike 34 61 (.goto (-42)) 3 rfl) rfl ?_
            refine Ak_keep [true, true, true, true] ?_
            exact ih h
          · replace h := it_t hc h
            refine Ak_iconst 53 (d_Slate_isLike 29 52 (.iconst 1) 1 rfl) rfl (rk rfl) ?_
            refine Ak_goto 57 (d_Slate_isLike 30 53 (.goto 4) 3 rfl) rfl ?_
            refine Ak_istore_n 58 2 (d_Slate_isLike 32 57 (.istore_n 2) 1 rfl) rfl rfl (by decide) ?_
            refine Ak_iinc 61 (d_Slate_isLike 33 58 (.iinc 3 1) 3 rfl) rfl rfl (by decide) ?_
            refine Ak_goto 19 (d_Slate_isLike 34 61 (.goto (-42)) 3 rfl) rfl ?_
            refine Ak_keep [true, true, true, true] ?_
            exact ih h
theorem c_Slate_isLike {S : ASh} {V : ASt} {x0 x1 : Int} {r : Int} {V' : ASt} (h : f_Slate_isLike S V x0 x1 = some (r, V')) : ACt m_Slate_isLike 2 0 0 [(aR x0), (aR x1)] S V (some (aI r)) S V' := by
  unfold f_Slate_isLike at h
  obtain ⟨hO, h⟩ := gd_some h
  refine ACt_of (plainFor_of_name rfl) rfl (Nat.le_of_ble_eq_true rfl) ?_
  show AWk m_Slate_isLike 2 0 0 0 0 0 [some (aR x0), some (aR x1)] [] S V (some (aI r)) S V'
  refine Ak_aload_n 1 0 (d_Slate_isLike 0 0 (.aload_n 0) 1 rfl) rfl rfl rfl ?_
  refine Ak_getI 4 0 hO clX6 (by decide) (Or.inl rfl) lkF_Slate_9 (d_Slate_isLike 1 1 (.getfield 9) 3 rfl) rfl ?_
  refine Ak_aload_n 5 1 (d_Slate_isLike 2 4 (.aload_n 1) 1 rfl) rfl rfl rfl ?_
  obtain ⟨hg7, h⟩ := gd_some h
  refine Ak_getI 8 0 hg7 clX6 (by decide) (Or.inl rfl) lkF_Slate_9 (d_Slate_isLike 3 5 (.getfield 9) 3 rfl) rfl ?_
  refine Ak_icmp_ne 15 11 (d_Slate_isLike 4 8 (.if_icmp .ne 7) 3 rfl) rfl rfl (fun hc => ?_) (fun hc => ?_)
  · replace h := it_f hc h
    refine Ak_iconst 16 (d_Slate_isLike 7 15 (.iconst 0) 1 rfl) rfl (rk rfl) ?_
    refine Ak_istore_n 17 2 (d_Slate_isLike 8 16 (.istore_n 2) 1 rfl) rfl rfl (by decide) ?_
    refine Ak_iconst 18 (d_Slate_isLike 9 17 (.iconst 0) 1 rfl) rfl (rk rfl) ?_
    refine Ak_istore_n 19 3 (d_Slate_isLike 10 18 (.istore_n 3) 1 rfl) rfl rfl (by decide) ?_
    refine Ak_keep [true, true, true, true] ?_
    exact t_Slate_isLike_L19 hO FU _ _ _ _ _ h
  · replace h := it_t hc h
    refine Ak_iconst 12 (d_Slate_isLike 5 11 (.iconst 1) 1 rfl) rfl (rk rfl) ?_
    refine Ak_goto 16 (d_Slate_isLike 6 12 (.goto 4) 3 rfl) rfl ?_
    refine Ak_istore_n 17 2 (d_Slate_isLike 8 16 (.istore_n 2) 1 rfl) rfl rfl (by decide) ?_
    refine Ak_iconst 18 (d_Slate_isLike 9 17 (.iconst 0) 1 rfl) rfl (rk rfl) ?_
    refine Ak_istore_n 19 3 (d_Slate_isLike 10 18 (.istore_n 3) 1 rfl) rfl rfl (by decide) ?_
    refine Ak_keep [true, true, true, true] ?_
    exact t_Slate_isLike_L19 hO FU _ _ _ _ _ h
theorem c_Slate_stepAt {S : ASh} {V : ASt} {x0 x1 : Int} {r : Int} {V' : ASt} (h : f_Slate_stepAt S V x0 x1 = some (r, V')) : ACt m_Slate_stepAt 4 0 0 [(aR x0), (aI x1)] S V (some (aI r)) S V' := by
  unfold f_Slate_stepAt at h
  obtain ⟨hO, h⟩ := gd_some h
  refine ACt_of (plainFor_of_name rfl) rfl (Nat.le_of_ble_eq_true rfl) ?_
  show AWk m_Slate_stepAt 4 0 0 0 0 0 [some (aR x0), some (aI x1)] [] S V (some (aI r)) S V'
  refine Ak_aload_n 1 0 (d_Slate_stepAt 0 0 (.aload_n 0) 1 rfl) rfl rfl rfl ?_
  refine Ak_iload_n 2 1 (d_Slate_stepAt 1 1 (.iload_n 1) 1 rfl) rfl rfl rfl ?_
  obtain ⟨r1, V2, h3, h⟩ := bnd_some h
  refine Ak_cV1 5 3 (c_Slate_packedAt h3) rfl hO clX6 rfl mok_Slate_packedAt lkM_Slate_46 (d_Slate_stepAt 2 2 (.invokevirtual 46) 3 rfl) rfl (by decide) (Nat.le_of_ble_eq_true rfl) ?_
  refine Ak_iconst 6 (d_Slate_stepAt 3 5 (.iconst 2) 1 rfl) rfl (rk rfl) ?_
  refine Ak_ishr 7 (d_Slate_stepAt 4 6 (.ishr) 1 rfl) rfl ?_
  refine Ak_iconst 8 (d_Slate_stepAt 5 7 (.iconst 3) 1 rfl) rfl (rk rfl) ?_
  refine Ak_iand 9 (d_Slate_stepAt 6 8 (.iand) 1 rfl) rfl ?_
  cases h
  exact Ak_iret rfl (d_Slate_stepAt 7 9 (.ireturn) 1 rfl)
theorem c_Slate_isStruck {S : ASh} {V : ASt} {x0 x1 : Int} {r : Int} {V' : ASt} (h : f_Slate_isStruck S V x0 x1 = some (r, V')) : ACt m_Slate_isStruck 4 0 0 [(aR x0), (aI x1)] S V (some (aI r)) S V' := by
  unfold f_Slate_isStruck at h
  obtain ⟨hO, h⟩ := gd_some h
  refine ACt_of (plainFor_of_name rfl) rfl (Nat.le_of_ble_eq_true rfl) ?_
  show AWk m_Slate_isStruck 4 0 0 0 0 0 [some (aR x0), some (aI x1)] [] S V (some (aI r)) S V'
  refine Ak_aload_n 1 0 (d_Slate_isStruck 0 0 (.aload_n 0) 1 rfl) rfl rfl rfl ?_
  refine Ak_iload_n 2 1 (d_Slate_isStruck 1 1 (.iload_n 1) 1 rfl) rfl rfl rfl ?_
  obtain ⟨r1, V2, h3, h⟩ := bnd_some h
  refine Ak_cV1 5 3 (c_Slate_packedAt h3) rfl hO clX6 rfl mok_Slate_packedAt lkM_Slate_46 (d_Slate_isStruck 2 2 (.invokevirtual 46) 3 rfl) rfl (by decide) (Nat.le_of_ble_eq_true rfl) ?_
  refine Ak_iconst 6 (d_Slate_isStruck 3 5 (.iconst 1) 1 rfl) rfl (rk rfl) ?_
  refine Ak_iand 7 (d_Slate_isStruck 4 6 (.iand) 1 rfl) rfl ?_
  refine Ak_if_eq 14 10 (d_Slate_isStruck 5 7 (.ifCond .eq 7) 3 rfl) rfl rfl (fun hc => ?_) (fun hc => ?_)
  · replace h := it_t hc h
    refine Ak_iconst 15 (d_Slate_isStruck 8 14 (.iconst 0) 1 rfl) rfl (rk rfl) ?_
    cases h
    exact Ak_zret (Or.inl rfl) rfl (d_Slate_isStruck 9 15 (.ireturn) 1 rfl)
  · replace h := it_f hc h
    refine Ak_iconst 11 (d_Slate_isStruck 6 10 (.iconst 1) 1 rfl) rfl (rk rfl) ?_
    refine Ak_goto 15 (d_Slate_isStruck 7 11 (.goto 4) 3 rfl) rfl ?_
    cases h
    exact Ak_zret (Or.inr rfl) rfl (d_Slate_isStruck 9 15 (.ireturn) 1 rfl)
theorem c_Slate_kindAt {S : ASh} {V : ASt} {x0 x1 x2 : Int} {r : Int} {V' : ASt} (h : f_Slate_kindAt S V x0 x1 x2 = some (r, V')) : ACt m_Slate_kindAt 4 0 0 [(aR x0), (aI x1), (aR x2)] S V (some (aI r)) S V' := by
  unfold f_Slate_kindAt at h
  obtain ⟨hO, h⟩ := gd_some h
  refine ACt_of (plainFor_of_name rfl) rfl (Nat.le_of_ble_eq_true rfl) ?_
  show AWk m_Slate_kindAt 4 0 0 0 0 0 [some (aR x0), some (aI x1), some (aR x2)] [] S V (some (aI r)) S V'
  refine Ak_aload_n 1 0 (d_Slate_kindAt 0 0 (.aload_n 0) 1 rfl) rfl rfl rfl ?_
  refine Ak_iload_n 2 1 (d_Slate_kindAt 1 1 (.iload_n 1) 1 rfl) rfl rfl rfl ?_
  obtain ⟨r1, V2, h3, h⟩ := bnd_some h
  refine Ak_cV1 5 3 (c_Slate_packedAt h3) rfl hO clX6 rfl mok_Slate_packedAt lkM_Slate_46 (d_Slate_kindAt 2 2 (.invokevirtual 46) 3 rfl) rfl (by decide) (Nat.le_of_ble_eq_true rfl) ?_
  refine Ak_istore_n 6 3 (d_Slate_kindAt 3 5 (.istore_n 3) 1 rfl) rfl rfl (by decide) ?_
  refine Ak_aload_n 7 2 (d_Slate_kindAt 4 6 (.aload_n 2) 1 rfl) rfl rfl rfl ?_
  refine Ak_iload_n 8 3 (d_Slate_kindAt 5 7 (.iload_n 3) 1 rfl) rfl rfl rfl ?_
  refine Ak_iconst 9 (d_Slate_kindAt 6 8 (.iconst 4) 1 rfl) rfl (rk rfl) ?_
  refine Ak_ishr 10 (d_Slate_kindAt 7 9 (.ishr) 1 rfl) rfl ?_
  obtain ⟨hg7, h⟩ := gd_some h
  obtain ⟨r4, V5, h6, h⟩ := bnd_some h
  refine Ak_cV1 13 3 (c_Game_kindOf h6) rfl hg7 clX1 rfl mok_Game_kindOf lkM_Slate_49 (d_Slate_kindAt 8 10 (.invokevirtual 49) 3 rfl) rfl (by decide) (Nat.le_of_ble_eq_true rfl) ?_
  refine Ak_istore 15 (d_Slate_kindAt 9 13 (.istore 4) 2 rfl) rfl (by decide) ?_
  refine Ak_iload_n 16 3 (d_Slate_kindAt 10 15 (.iload_n 3) 1 rfl) rfl rfl rfl ?_
  refine Ak_iconst 17 (d_Slate_kindAt 11 16 (.iconst 2) 1 rfl) rfl (rk rfl) ?_
  refine Ak_iand 18 (d_Slate_kindAt 12 17 (.iand) 1 rfl) rfl ?_
  refine Ak_if_eq 28 21 (d_Slate_kindAt 13 18 (.ifCond .eq 10) 3 rfl) rfl rfl (fun hc => ?_) (fun hc => ?_)
  · replace h := it_t hc h
    refine Ak_iload 30 (d_Slate_kindAt 18 28 (.iload 4) 2 rfl) rfl rfl ?_
    cases h
    exact Ak_iret rfl (d_Slate_kindAt 19 30 (.ireturn) 1 rfl)
  · replace h := it_f hc h
    refine Ak_iload 23 (d_Slate_kindAt 14 21 (.iload 4) 2 rfl) rfl rfl ?_
    refine Ak_iconst 24 (d_Slate_kindAt 15 23 (.iconst 1) 1 rfl) rfl (rk rfl) ?_
    refine Ak_ixor 25 (d_Slate_kindAt 16 24 (.ixor) 1 rfl) rfl ?_
    refine Ak_goto 30 (d_Slate_kindAt 17 25 (.goto 5) 3 rfl) rfl ?_
    cases h
    exact Ak_iret rfl (d_Slate_kindAt 19 30 (.ireturn) 1 rfl)
theorem t_Slate_countStruck_L4 {S : ASh} {x0 : Int} (hO : isO S x0 6 = true) : ∀ (n : Nat) (V : ASt) (x1 x2 : Int) (r : Int) (V' : ASt), b_Slate_countStruck_L4 S x0 n V x1 x2 = some (r, V') → AWk m_Slate_countStruck 5 0 0 0 0 4 [some (aR x0), some (aI x1), some (aI x2)] [] S V (some (aI r)) S V' := by
  intro n
  induction n with
  | zero => intro V x1 x2 r V' h; cases h
  | succ n ih =>
    intro V x1 x2 r V' h
    replace ih : ∀ {V : ASt} {x1 x2 : Int} {r : Int} {V' : ASt}, b_Slate_countStruck_L4 S x0 n V x1 x2 = some (r, V') → AWk m_Slate_countStruck 5 0 0 0 0 4 [some (aR x0), some (aI x1), some (aI x2)] [] S V (some (aI r)) S V' := fun h => ih _ _ _ _ _ h
    rw [b_Slate_countStruck_L4] at h
    refine Ak_iload_n 5 2 (d_Slate_countStruck 4 4 (.iload_n 2) 1 rfl) rfl rfl rfl ?_
    refine Ak_aload_n 6 0 (d_Slate_countStruck 5 5 (.aload_n 0) 1 rfl) rfl rfl rfl ?_
    refine Ak_getI 9 0 hO clX6 (by decide) (Or.inl rfl) lkF_Slate_9 (d_Slate_countStruck 6 6 (.getfield 9) 3 rfl) rfl ?_
    refine Ak_icmp_ge 34 12 (d_Slate_countStruck 7 9 (.if_icmp .ge 25) 3 rfl) rfl rfl (fun hc => ?_) (fun hc => ?_)
    · replace h := it_t hc h
      refine Ak_iload_n 35 1 (d_Slate_countStruck 20 34 (.iload_n 1) 1 rfl) rfl rfl rfl ?_
      cases h
      exact Ak_iret rfl (d_Slate_countStruck 21 35 (.ireturn) 1 rfl)
    · replace h := it_f hc h
      refine Ak_iload_n 13 1 (d_Slate_countStruck 8 12 (.iload_n 1) 1 rfl) rfl rfl rfl ?_
      refine Ak_aload_n 14 0 (d_Slate_countStruck 9 13 (.aload_n 0) 1 rfl) rfl rfl rfl ?_
      refine Ak_iload_n 15 2 (d_Slate_countStruck 10 14 (.iload_n 2) 1 rfl) rfl rfl rfl ?_
      obtain ⟨r1, V2, h3, h⟩ := bnd_some h
      refine Ak_cV1 18 4 (c_Slate_isStruck h3) rfl hO clX6 rfl mok_Slate_isStruck lkM_Slate_52 (d_Slate_countStruck 11 15 (.invokevirtual 52) 3 rfl) rfl (by decide) (Nat.le_of_ble_eq_true rfl) ?_
      refine Ak_if_eq 25 21 (d_Slate_countStruck 12 18 (.ifCond .eq 7) 3 rfl) rfl rfl (fun hc => ?_) (fun hc => ?_)
      · replace h := it_t hc h
        refine Ak_iconst 26 (d_Slate_countStruck 15 25 (.iconst 0) 1 rfl) rfl (rk rfl) ?_
        refine Ak_iadd 27 (d_Slate_countStruck 16 26 (.iadd) 1 rfl) rfl ?_
        refine Ak_istore_n 28 1 (d_Slate_countStruck 17 27 (.istore_n 1) 1 rfl) rfl rfl (by decide) ?_
        refine Ak_iinc 31 (d_Slate_countStruck 18 28 (.iinc 2 1) 3 rfl) rfl rfl (by decide) ?_
        refine Ak_goto 4 (d_Slate_countStruck 19 31 (.goto (-27)) 3 rfl) rfl ?_
        refine Ak_keep [true, true, true] ?_
        exact ih h
      · replace h := it_f hc h
        refine Ak_iconst 22 (d_Slate_countStruck 13 21 (.iconst 1) 1 rfl) rfl (rk rfl) ?_
        refine Ak_goto 26 (d_Slate_countStruck 14 22 (.goto 4) 3 rfl) rfl ?_
        refine Ak_iadd 27 (d_Slate_countStruck 16 26 (.iadd) 1 rfl) rfl ?_
        refine Ak_istore_n 28 1 (d_Slate_countStruck 17 27 (.istore_n 1) 1 rfl) rfl rfl (by decide) ?_
        refine Ak_iinc 31 (d_Slate_countStruck 18 28 (.iinc 2 1) 3 rfl) rfl rfl (by decide) ?_
        refine Ak_goto 4 (d_Slate_countStruck 19 31 (.goto (-27)) 3 rfl) rfl ?_
        refine Ak_keep [true, true, true] ?_
        exact ih h
theorem c_Slate_countStruck {S : ASh} {V : ASt} {x0 : Int} {r : Int} {V' : ASt} (h : f_Slate_countStruck S V x0 = some (r, V')) : ACt m_Slate_countStruck 5 0 0 [(aR x0)] S V (some (aI r)) S V' := by
  unfold f_Slate_countStruck at h
  obtain ⟨hO, h⟩ := gd_some h
  refine ACt_of (plainFor_of_name rfl) rfl (Nat.le_of_ble_eq_true rfl) ?_
  show AWk m_Slate_countStruck 5 0 0 0 0 0 [some (aR x0)] [] S V (some (aI r)) S V'
  refine Ak_iconst 1 (d_Slate_countStruck 0 0 (.iconst 0) 1 rfl) rfl (rk rfl) ?_
  refine Ak_istore_n 2 1 (d_Slate_countStruck 1 1 (.istore_n 1) 1 rfl) rfl rfl (by decide) ?_
  refine Ak_iconst 3 (d_Slate_countStruck 2 2 (.iconst 0) 1 rfl) rfl (rk rfl) ?_
  refine Ak_istore_n 4 2 (d_Slate_countStruck 3 3 (.istore_n 2) 1 rfl) rfl rfl (by decide) ?_
  refine Ak_keep [true, true, true] ?_
  exact t_Slate_countStruck_L4 hO FU _ _ _ _ _ h
theorem c_Slate_codeCount {S : ASh} {V : ASt} {x0 : Int} {r : Int} {V' : ASt} (h : f_Slate_codeCount S V x0 = some (r, V')) : ACt m_Slate_codeCount 2 0 0 [(aR x0)] S V (some (aI r)) S V' := by
  unfold f_Slate_codeCount at h
  obtain ⟨hO, h⟩ := gd_some h
  refine ACt_of (plainFor_of_name rfl) rfl (Nat.le_of_ble_eq_true rfl) ?_
  show AWk m_Slate_codeCount 2 0 0 0 0 0 [some (aR x0)] [] S V (some (aI r)) S V'
  refine Ak_aload_n 1 0 (d_Slate_codeCount 0 0 (.aload_n 0) 1 rfl) rfl rfl rfl ?_
  refine Ak_getI 4 0 hO clX6 (by decide) (Or.inl rfl) lkF_Slate_9 (d_Slate_codeCount 1 1 (.getfield 9) 3 rfl) rfl ?_
  refine Ak_bipush 6 (d_Slate_codeCount 2 4 (.bipush 6) 2 rfl) rfl (bp_ok rfl) (rk rfl) ?_
  refine Ak_imul 7 (d_Slate_codeCount 3 6 (.imul) 1 rfl) rfl ?_
  cases h
  exact Ak_iret rfl (d_Slate_codeCount 4 7 (.ireturn) 1 rfl)
theorem c_Slate_allows {S : ASh} {V : ASt} {x0 x1 x2 : Int} {r : Int} {V' : ASt} (h : f_Slate_allows S V x0 x1 x2 = some (r, V')) : ACt m_Slate_allows 5 0 0 [(aR x0), (aR x1), (aI x2)] S V (some (aI r)) S V' := by
  unfold f_Slate_allows at h
  obtain ⟨hO, h⟩ := gd_some h
  refine ACt_of (plainFor_of_name rfl) rfl (Nat.le_of_ble_eq_true rfl) ?_
  show AWk m_Slate_allows 5 0 0 0 0 0 [some (aR x0), some (aR x1), some (aI x2)] [] S V (some (aI r)) S V'
  refine Ak_iload_n 1 2 (d_Slate_allows 0 0 (.iload_n 2) 1 rfl) rfl rfl rfl ?_
  refine Ak_if_lt 12 4 (d_Slate_allows 1 1 (.ifCond .lt 11) 3 rfl) rfl rfl (fun hc => ?_) (fun hc => ?_)
  · replace h := it_t hc h
    refine Ak_iconst 13 (d_Slate_allows 6 12 (.iconst 0) 1 rfl) rfl (rk rfl) ?_
    cases h
    exact Ak_zret (Or.inl rfl) rfl (d_Slate_allows 7 13 (.ireturn) 1 rfl)
  · replace h := it_f hc h
    refine Ak_iload_n 5 2 (d_Slate_allows 2 4 (.iload_n 2) 1 rfl) rfl rfl rfl ?_
    refine Ak_aload_n 6 0 (d_Slate_allows 3 5 (.aload_n 0) 1 rfl) rfl rfl rfl ?_
    obtain ⟨r1, V2, h3, h⟩ := bnd_some h
    refine Ak_cV1 9 2 (c_Slate_codeCount h3) rfl hO clX6 rfl mok_Slate_codeCount lkM_Slate_55 (d_Slate_allows 4 6 (.invokevirtual 55) 3 rfl) rfl (by decide) (Nat.le_of_ble_eq_true rfl) ?_
    refine Ak_icmp_lt 14 12 (d_Slate_allows 5 9 (.if_icmp .lt 5) 3 rfl) rfl rfl (fun hc => ?_) (fun hc => ?_)
    · replace h := it_t hc h
      refine Ak_iload_n 15 2 (d_Slate_allows 8 14 (.iload_n 2) 1 rfl) rfl rfl rfl ?_
      refine Ak_bipush 17 (d_Slate_allows 9 15 (.bipush 6) 2 rfl) rfl (bp_ok rfl) (rk rfl) ?_
      refine Ak_idiv 18 (d_Slate_allows 10 17 (.idiv) 1 rfl) rfl (by decide) ?_
      refine Ak_istore_n 19 3 (d_Slate_allows 11 18 (.istore_n 3) 1 rfl) rfl rfl (by decide) ?_
      refine Ak_iload_n 20 2 (d_Slate_allows 12 19 (.iload_n 2) 1 rfl) rfl rfl rfl ?_
      refine Ak_bipush 22 (d_Slate_allows 13 20 (.bipush 6) 2 rfl) rfl (bp_ok rfl) (rk rfl) ?_
      refine Ak_irem 23 (d_Slate_allows 14 22 (.irem) 1 rfl) rfl (by decide) ?_
      refine Ak_istore 25 (d_Slate_allows 15 23 (.istore 4) 2 rfl) rfl (by decide) ?_
      refine Ak_aload_n 26 1 (d_Slate_allows 16 25 (.aload_n 1) 1 rfl) rfl rfl rfl ?_
      refine Ak_aload_n 27 0 (d_Slate_allows 17 26 (.aload_n 0) 1 rfl) rfl rfl rfl ?_
      refine Ak_iload_n 28 3 (d_Slate_allows 18 27 (.iload_n 3) 1 rfl) rfl rfl rfl ?_
      obtain ⟨r4, V5, h6, h⟩ := bnd_some h
      refine Ak_cV1 31 4 (c_Slate_ruleAt h6) rfl hO clX6 rfl mok_Slate_ruleAt lkM_Slate_59 (d_Slate_allows 19 28 (.invokevirtual 59) 3 rfl) rfl (by decide) (Nat.le_of_ble_eq_true rfl) ?_
      obtain ⟨hg10, h⟩ := gd_some h
      obtain ⟨r7, V8, h9, h⟩ := bnd_some h
      refine Ak_cV1 34 3 (c_Game_isEver h9) rfl hg10 clX1 rfl mok_Game_isEver lkM_Slate_62 (d_Slate_allows 20 31 (.invokevirtual 62) 3 rfl) rfl (by decide) (Nat.le_of_ble_eq_true rfl) ?_
      refine Ak_if_eq 39 37 (d_Slate_allows 21 34 (.ifCond .eq 5) 3 rfl) rfl rfl (fun hc => ?_) (fun hc => ?_)
      · replace h := it_t hc h
        refine Ak_iload 41 (d_Slate_allows 24 39 (.iload 4) 2 rfl) rfl rfl ?_
        refine Ak_iconst 42 (d_Slate_allows 25 41 (.iconst 5) 1 rfl) rfl (rk rfl) ?_
        refine Ak_icmp_ne 75 45 (d_Slate_allows 26 42 (.if_icmp .ne 33) 3 rfl) rfl rfl (fun hc => ?_) (fun hc => ?_)
        · replace h := it_f hc h
          refine Ak_aload_n 76 0 (d_Slate_allows 45 75 (.aload_n 0) 1 rfl) rfl rfl rfl ?_
          refine Ak_iload_n 77 3 (d_Slate_allows 46 76 (.iload_n 3) 1 rfl) rfl rfl rfl ?_
          obtain ⟨r11, V12, h13, h⟩ := bnd_some h
          refine Ak_cV1 80 4 (c_Slate_stepAt h13) rfl hO clX6 rfl mok_Slate_stepAt lkM_Slate_65 (d_Slate_allows 47 77 (.invokevirtual 65) 3 rfl) rfl (by decide) (Nat.le_of_ble_eq_true rfl) ?_
          refine Ak_istore 82 (d_Slate_allows 48 80 (.istore 5) 2 rfl) rfl (by decide) ?_
          refine Ak_iload 84 (d_Slate_allows 49 82 (.iload 4) 2 rfl) rfl rfl ?_
          refine Ak_if_eq 107 87 (d_Slate_allows 50 84 (.ifCond .eq 23) 3 rfl) rfl rfl (fun hc => ?_) (fun hc => ?_)
          · replace h := it_t hc h
            refine Ak_iconst 108 (d_Slate_allows 61 107 (.iconst 1) 1 rfl) rfl (rk rfl) ?_
            refine Ak_goto 112 (d_Slate_allows 62 108 (.goto 4) 3 rfl) rfl ?_
            cases h
            exact Ak_zret (Or.inr rfl) rfl (d_Slate_allows 64 112 (.ireturn) 1 rfl)
          · replace h := it_f hc h
            refine Ak_iload 89 (d_Slate_allows 51 87 (.iload 4) 2 rfl) rfl rfl ?_
            refine Ak_iconst 90 (d_Slate_allows 52 89 (.iconst 1) 1 rfl) rfl (rk rfl) ?_
            refine Ak_icmp_eq 107 93 (d_Slate_allows 53 90 (.if_icmp .eq 17) 3 rfl) rfl rfl (fun hc => ?_) (fun hc => ?_)
            · replace h := it_t hc h
              refine Ak_iconst 108 (d_Slate_allows 61 107 (.iconst 1) 1 rfl) rfl (rk rfl) ?_
              refine Ak_goto 112 (d_Slate_allows 62 108 (.goto 4) 3 rfl) rfl ?_
              cases h
              exact Ak_zret (Or.inr rfl) rfl (d_Slate_allows 64 112 (.ireturn) 1 rfl)
            · replace h := it_f hc h
              refine Ak_iload 95 (d_Slate_allows 54 93 (.iload 5) 2 rfl) rfl rfl ?_
              refine Ak_if_eq 111 98 (d_Slate_allows 55 95 (.ifCond .eq 16) 3 rfl) rfl rfl (fun hc => ?_) (fun hc => ?_)
              · replace h := it_t hc h
                refine Ak_iconst 112 (d_Slate_allows 63 111 (.iconst 0) 1 rfl) rfl (rk rfl) ?_
                cases h
                exact Ak_zret (Or.inl rfl) rfl (d_Slate_allows 64 112 (.ireturn) 1 rfl)
              · replace h := it_f hc h
                refine Ak_iload 100 (d_Slate_allows 56 98 (.iload 5) 2 rfl) rfl rfl ?_
                refine Ak_iload 102 (d_Slate_allows 57 100 (.iload 4) 2 rfl) rfl rfl ?_
                refine Ak_iconst 103 (d_Slate_allows 58 102 (.iconst 1) 1 rfl) rfl (rk rfl) ?_
                refine Ak_isub 104 (d_Slate_allows 59 103 (.isub) 1 rfl) rfl ?_
                refine Ak_icmp_eq 111 107 (d_Slate_allows 60 104 (.if_icmp .eq 7) 3 rfl) rfl rfl (fun hc => ?_) (fun hc => ?_)
                · replace h := it_t hc h
                  refine Ak_iconst 112 (d_Slate_allows 63 111 (.iconst 0) 1 rfl) rfl (rk rfl) ?_
                  cases h
                  exact Ak_zret (Or.inl rfl) rfl (d_Slate_allows 64 112 (.ireturn) 1 rfl)
                · replace h := it_f hc h
                  refine Ak_iconst 108 (d_Slate_allows 61 107 (.iconst 1) 1 rfl) rfl (rk rfl) ?_
                  refine Ak_goto 112 (d_Slate_allows 62 108 (.goto 4) 3 rfl) rfl ?_
                  cases h
                  exact Ak_zret (Or.inr rfl) rfl (d_Slate_allows 64 112 (.ireturn) 1 rfl)
        · replace h := it_t hc h
          refine Ak_iload_n 46 3 (d_Slate_allows 27 45 (.iload_n 3) 1 rfl) rfl rfl rfl ?_
          refine Ak_iconst 47 (d_Slate_allows 28 46 (.iconst 1) 1 rfl) rfl (rk rfl) ?_
          refine Ak_iadd 48 (d_Slate_allows 29 47 (.iadd) 1 rfl) rfl ?_
          refine Ak_aload_n 49 0 (d_Slate_allows 30 48 (.aload_n 0) 1 rfl) rfl rfl rfl ?_
          refine Ak_getI 52 0 hO clX6 (by decide) (Or.inl rfl) lkF_Slate_9 (d_Slate_allows 31 49 (.getfield 9) 3 rfl) rfl ?_
          refine Ak_icmp_ge 73 55 (d_Slate_allows 32 52 (.if_icmp .ge 21) 3 rfl) rfl rfl (fun hc => ?_) (fun hc => ?_)
          · replace h := it_t hc h
            refine Ak_iconst 74 (d_Slate_allows 43 73 (.iconst 0) 1 rfl) rfl (rk rfl) ?_
            cases h
            exact Ak_zret (Or.inl rfl) rfl (d_Slate_allows 44 74 (.ireturn) 1 rfl)
          · replace h := it_f hc h
            refine Ak_aload_n 56 1 (d_Slate_allows 33 55 (.aload_n 1) 1 rfl) rfl rfl rfl ?_
            refine Ak_aload_n 57 0 (d_Slate_allows 34 56 (.aload_n 0) 1 rfl) rfl rfl rfl ?_
            refine Ak_iload_n 58 3 (d_Slate_allows 35 57 (.iload_n 3) 1 rfl) rfl rfl rfl ?_
            refine Ak_iconst 59 (d_Slate_allows 36 58 (.iconst 1) 1 rfl) rfl (rk rfl) ?_
            refine Ak_iadd 60 (d_Slate_allows 37 59 (.iadd) 1 rfl) rfl ?_
            obtain ⟨r14, V15, h16, h⟩ := bnd_some h
            refine Ak_cV1 63 4 (c_Slate_ruleAt h16) rfl hO clX6 rfl mok_Slate_ruleAt lkM_Slate_59 (d_Slate_allows 38 60 (.invokevirtual 59) 3 rfl) rfl (by decide) (Nat.le_of_ble_eq_true rfl) ?_
            obtain ⟨r17, V18, h19, h⟩ := bnd_some h
            refine Ak_cV1 66 3 (c_Game_isEver h19) rfl hg10 clX1 rfl mok_Game_isEver lkM_Slate_62 (d_Slate_allows 39 63 (.invokevirtual 62) 3 rfl) rfl (by decide) (Nat.le_of_ble_eq_true rfl) ?_
            refine Ak_if_ne 73 69 (d_Slate_allows 40 66 (.ifCond .ne 7) 3 rfl) rfl rfl (fun hc => ?_) (fun hc => ?_)
            · replace h := it_f hc h
              refine Ak_iconst 74 (d_Slate_allows 43 73 (.iconst 0) 1 rfl) rfl (rk rfl) ?_
              cases h
              exact Ak_zret (Or.inl rfl) rfl (d_Slate_allows 44 74 (.ireturn) 1 rfl)
            · replace h := it_t hc h
              refine Ak_iconst 70 (d_Slate_allows 41 69 (.iconst 1) 1 rfl) rfl (rk rfl) ?_
              refine Ak_goto 74 (d_Slate_allows 42 70 (.goto 4) 3 rfl) rfl ?_
              cases h
              exact Ak_zret (Or.inr rfl) rfl (d_Slate_allows 44 74 (.ireturn) 1 rfl)
      · replace h := it_f hc h
        refine Ak_iconst 38 (d_Slate_allows 22 37 (.iconst 0) 1 rfl) rfl (rk rfl) ?_
        cases h
        exact Ak_zret (Or.inl rfl) rfl (d_Slate_allows 23 38 (.ireturn) 1 rfl)
    · replace h := it_f hc h
      refine Ak_iconst 13 (d_Slate_allows 6 12 (.iconst 0) 1 rfl) rfl (rk rfl) ?_
      cases h
      exact Ak_zret (Or.inl rfl) rfl (d_Slate_allows 7 13 (.ireturn) 1 rfl)
theorem c_Tests_emit {S : ASh} {V : ASt} {x0 x1 : Int} {r : Int} {V' : ASt} (h : f_Tests_emit S V x0 x1 = some (r, V')) : ACt m_Tests_emit 2 0 0 [(aR x0), (aI x1)] S V none S V' := by
  unfold f_Tests_emit at h
  obtain ⟨hO, h⟩ := gd_some h
  refine ACt_of (plainFor_of_name rfl) rfl (Nat.le_of_ble_eq_true rfl) ?_
  show AWk m_Tests_emit 2 0 0 0 0 0 [some (aR x0), some (aI x1)] [] S V none S V'
  refine Ak_aload_n 1 0 (d_Tests_emit 0 0 (.aload_n 0) 1 rfl) rfl rfl rfl ?_
  refine Ak_getI 4 2 hO clX8 (by decide) (Or.inl rfl) lkF_Tests_18 (d_Tests_emit 1 1 (.getfield 18) 3 rfl) rfl ?_
  refine Ak_sipush 7 (d_Tests_emit 2 4 (.sipush 1800) 3 rfl) rfl (sp_ok rfl) (rk rfl) ?_
  refine Ak_icmp_ge 30 10 (d_Tests_emit 3 7 (.if_icmp .ge 23) 3 rfl) rfl rfl (fun hc => ?_) (fun hc => ?_)
  · replace h := it_t hc h
    cases h
    exact Ak_vret rfl (d_Tests_emit 16 30 (.return_) 1 rfl)
  · replace h := it_f hc h
    refine Ak_aload_n 11 0 (d_Tests_emit 4 10 (.aload_n 0) 1 rfl) rfl rfl rfl ?_
    refine Ak_getF 14 0 hO clX8 (by decide) rfl lkF_Tests_9 (d_Tests_emit 5 11 (.getfield 9) 3 rfl) rfl ?_
    refine Ak_aload_n 15 0 (d_Tests_emit 6 14 (.aload_n 0) 1 rfl) rfl rfl rfl ?_
    refine Ak_getI 18 2 hO clX8 (by decide) (Or.inl rfl) lkF_Tests_18 (d_Tests_emit 7 15 (.getfield 18) 3 rfl) rfl ?_
    refine Ak_iload_n 19 1 (d_Tests_emit 8 18 (.iload_n 1) 1 rfl) rfl rfl rfl ?_
    obtain ⟨ha1, h⟩ := gd_some h
    refine Ak_iastore 20 ha1 (d_Tests_emit 9 19 (.iastore) 1 rfl) rfl (fun V2 hV2 => ?_)
    replace h := wV_some h V2 hV2
    refine Ak_aload_n 21 0 (d_Tests_emit 10 20 (.aload_n 0) 1 rfl) rfl rfl rfl ?_
    refine Ak_dup 22 (d_Tests_emit 11 21 (.dup) 1 rfl) rfl rfl ?_
    refine Ak_getI 25 2 hO clX8 (by decide) (Or.inl rfl) lkF_Tests_18 (d_Tests_emit 12 22 (.getfield 18) 3 rfl) rfl ?_
    refine Ak_iconst 26 (d_Tests_emit 13 25 (.iconst 1) 1 rfl) rfl (rk rfl) ?_
    refine Ak_iadd 27 (d_Tests_emit 14 26 (.iadd) 1 rfl) rfl ?_
    refine Ak_putI 30 2 hO clX8 (by decide) rfl rfl rfl lkF_Tests_18 (d_Tests_emit 15 27 (.putfield 18) 3 rfl) rfl (fun V3 hV3 => ?_)
    replace h := wV_some h V3 hV3
    cases h
    exact Ak_vret rfl (d_Tests_emit 16 30 (.return_) 1 rfl)
theorem c_Tests_close {S : ASh} {V : ASt} {x0 : Int} {r : Int} {V' : ASt} (h : f_Tests_close S V x0 = some (r, V')) : ACt m_Tests_close 2 0 0 [(aR x0)] S V none S V' := by
  unfold f_Tests_close at h
  obtain ⟨hO, h⟩ := gd_some h
  refine ACt_of (plainFor_of_name rfl) rfl (Nat.le_of_ble_eq_true rfl) ?_
  show AWk m_Tests_close 2 0 0 0 0 0 [some (aR x0)] [] S V none S V'
  refine Ak_aload_n 1 0 (d_Tests_close 0 0 (.aload_n 0) 1 rfl) rfl rfl rfl ?_
  refine Ak_getI 4 3 hO clX8 (by decide) (Or.inl rfl) lkF_Tests_22 (d_Tests_close 1 1 (.getfield 22) 3 rfl) rfl ?_
  refine Ak_bipush 6 (d_Tests_close 2 4 (.bipush 12) 2 rfl) rfl (bp_ok rfl) (rk rfl) ?_
  refine Ak_icmp_ge 32 9 (d_Tests_close 3 6 (.if_icmp .ge 26) 3 rfl) rfl rfl (fun hc => ?_) (fun hc => ?_)
  · replace h := it_t hc h
    cases h
    exact Ak_vret rfl (d_Tests_close 17 32 (.return_) 1 rfl)
  · replace h := it_f hc h
    refine Ak_aload_n 10 0 (d_Tests_close 4 9 (.aload_n 0) 1 rfl) rfl rfl rfl ?_
    refine Ak_dup 11 (d_Tests_close 5 10 (.dup) 1 rfl) rfl rfl ?_
    refine Ak_getI 14 3 hO clX8 (by decide) (Or.inl rfl) lkF_Tests_22 (d_Tests_close 6 11 (.getfield 22) 3 rfl) rfl ?_
    refine Ak_iconst 15 (d_Tests_close 7 14 (.iconst 1) 1 rfl) rfl (rk rfl) ?_
    refine Ak_iadd 16 (d_Tests_close 8 15 (.iadd) 1 rfl) rfl ?_
    refine Ak_putI 19 3 hO clX8 (by decide) rfl rfl rfl lkF_Tests_22 (d_Tests_close 9 16 (.putfield 22) 3 rfl) rfl (fun V1 hV1 => ?_)
    replace h := wV_some h V1 hV1
    refine Ak_aload_n 20 0 (d_Tests_close 10 19 (.aload_n 0) 1 rfl) rfl rfl rfl ?_
    refine Ak_getF 23 1 hO clX8 (by decide) rfl lkF_Tests_15 (d_Tests_close 11 20 (.getfield 15) 3 rfl) rfl ?_
    refine Ak_aload_n 24 0 (d_Tests_close 12 23 (.aload_n 0) 1 rfl) rfl rfl rfl ?_
    refine Ak_getI 27 3 hO clX8 (by decide) (Or.inl rfl) lkF_Tests_22 (d_Tests_close 13 24 (.getfield 22) 3 rfl) rfl ?_
    refine Ak_aload_n 28 0 (d_Tests_close 14 27 (.aload_n 0) 1 rfl) rfl rfl rfl ?_
    refine Ak_getI 31 2 hO clX8 (by decide) (Or.inl rfl) lkF_Tests_18 (d_Tests_close 15 28 (.getfield 18) 3 rfl) rfl ?_
    obtain ⟨ha2, h⟩ := gd_some h
    refine Ak_iastore 32 ha2 (d_Tests_close 16 31 (.iastore) 1 rfl) rfl (fun V3 hV3 => ?_)
    replace h := wV_some h V3 hV3
    cases h
    exact Ak_vret rfl (d_Tests_close 17 32 (.return_) 1 rfl)
theorem c_Tokens_isBlank {S : ASh} {V : ASt} {x0 : Int} {r : Int} {V' : ASt} (h : f_Tokens_isBlank S V x0 = some (r, V')) : ACt m_Tokens_isBlank 2 0 0 [(aI x0)] S V (some (aI r)) S V' := by
  unfold f_Tokens_isBlank at h
  refine ACt_of (plainFor_of_name rfl) rfl (Nat.le_of_ble_eq_true rfl) ?_
  show AWk m_Tokens_isBlank 2 0 0 0 0 0 [some (aI x0)] [] S V (some (aI r)) S V'
  refine Ak_iload_n 1 0 (d_Tokens_isBlank 0 0 (.iload_n 0) 1 rfl) rfl rfl rfl ?_
  refine Ak_bipush 3 (d_Tokens_isBlank 1 1 (.bipush 10) 2 rfl) rfl (bp_ok rfl) (rk rfl) ?_
  refine Ak_icmp_eq 12 6 (d_Tokens_isBlank 2 3 (.if_icmp .eq 9) 3 rfl) rfl rfl (fun hc => ?_) (fun hc => ?_)
  · replace h := it_t hc h
    refine Ak_iconst 13 (d_Tokens_isBlank 6 12 (.iconst 1) 1 rfl) rfl (rk rfl) ?_
    refine Ak_goto 17 (d_Tokens_isBlank 7 13 (.goto 4) 3 rfl) rfl ?_
    cases h
    exact Ak_zret (Or.inr rfl) rfl (d_Tokens_isBlank 9 17 (.ireturn) 1 rfl)
  · replace h := it_f hc h
    refine Ak_iload_n 7 0 (d_Tokens_isBlank 3 6 (.iload_n 0) 1 rfl) rfl rfl rfl ?_
    refine Ak_bipush 9 (d_Tokens_isBlank 4 7 (.bipush 32) 2 rfl) rfl (bp_ok rfl) (rk rfl) ?_
    refine Ak_icmp_ne 16 12 (d_Tokens_isBlank 5 9 (.if_icmp .ne 7) 3 rfl) rfl rfl (fun hc => ?_) (fun hc => ?_)
    · replace h := it_f hc h
      refine Ak_iconst 17 (d_Tokens_isBlank 8 16 (.iconst 0) 1 rfl) rfl (rk rfl) ?_
      cases h
      exact Ak_zret (Or.inl rfl) rfl (d_Tokens_isBlank 9 17 (.ireturn) 1 rfl)
    · replace h := it_t hc h
      refine Ak_iconst 13 (d_Tokens_isBlank 6 12 (.iconst 1) 1 rfl) rfl (rk rfl) ?_
      refine Ak_goto 17 (d_Tokens_isBlank 7 13 (.goto 4) 3 rfl) rfl ?_
      cases h
      exact Ak_zret (Or.inr rfl) rfl (d_Tokens_isBlank 9 17 (.ireturn) 1 rfl)
theorem c_Tokens_add {S : ASh} {V : ASt} {x0 x1 x2 x3 : Int} {r : Int} {V' : ASt} (h : f_Tokens_add S V x0 x1 x2 x3 = some (r, V')) : ACt m_Tokens_add 2 0 0 [(aR x0), (aI x1), (aI x2), (aI x3)] S V (some (aI r)) S V' := by
  unfold f_Tokens_add at h
  obtain ⟨hO, h⟩ := gd_some h
  refine ACt_of (plainFor_of_name rfl) rfl (Nat.le_of_ble_eq_true rfl) ?_
  show AWk m_Tokens_add 2 0 0 0 0 0 [some (aR x0), some (aI x1), some (aI x2), some (aI x3)] [] S V (some (aI r)) S V'
  refine Ak_aload_n 1 0 (d_Tokens_add 0 0 (.aload_n 0) 1 rfl) rfl rfl rfl ?_
  refine Ak_getI 4 4 hO clX9 (by decide) (Or.inl rfl) lkF_Tokens_24 (d_Tokens_add 1 1 (.getfield 24) 3 rfl) rfl ?_
  refine Ak_sipush 7 (d_Tokens_add 2 4 (.sipush 1801) 3 rfl) rfl (sp_ok rfl) (rk rfl) ?_
  refine Ak_icmp_ge 50 10 (d_Tokens_add 3 7 (.if_icmp .ge 43) 3 rfl) rfl rfl (fun hc => ?_) (fun hc => ?_)
  · replace h := it_t hc h
    refine Ak_iload_n 51 1 (d_Tokens_add 28 50 (.iload_n 1) 1 rfl) rfl rfl rfl ?_
    cases h
    exact Ak_iret rfl (d_Tokens_add 29 51 (.ireturn) 1 rfl)
  · replace h := it_f hc h
    refine Ak_aload_n 11 0 (d_Tokens_add 4 10 (.aload_n 0) 1 rfl) rfl rfl rfl ?_
    refine Ak_getF 14 1 hO clX9 (by decide) rfl lkF_Tokens_15 (d_Tokens_add 5 11 (.getfield 15) 3 rfl) rfl ?_
    refine Ak_aload_n 15 0 (d_Tokens_add 6 14 (.aload_n 0) 1 rfl) rfl rfl rfl ?_
    refine Ak_getI 18 4 hO clX9 (by decide) (Or.inl rfl) lkF_Tokens_24 (d_Tokens_add 7 15 (.getfield 24) 3 rfl) rfl ?_
    refine Ak_iload_n 19 1 (d_Tokens_add 8 18 (.iload_n 1) 1 rfl) rfl rfl rfl ?_
    obtain ⟨ha1, h⟩ := gd_some h
    refine Ak_iastore 20 ha1 (d_Tokens_add 9 19 (.iastore) 1 rfl) rfl (fun V2 hV2 => ?_)
    replace h := wV_some h V2 hV2
    refine Ak_aload_n 21 0 (d_Tokens_add 10 20 (.aload_n 0) 1 rfl) rfl rfl rfl ?_
    refine Ak_getF 24 2 hO clX9 (by decide) rfl lkF_Tokens_18 (d_Tokens_add 11 21 (.getfield 18) 3 rfl) rfl ?_
    refine Ak_aload_n 25 0 (d_Tokens_add 12 24 (.aload_n 0) 1 rfl) rfl rfl rfl ?_
    refine Ak_getI 28 4 hO clX9 (by decide) (Or.inl rfl) lkF_Tokens_24 (d_Tokens_add 13 25 (.getfield 24) 3 rfl) rfl ?_
    refine Ak_iload_n 29 2 (d_Tokens_add 14 28 (.iload_n 2) 1 rfl) rfl rfl rfl ?_
    obtain ⟨ha3, h⟩ := gd_some h
    refine Ak_iastore 30 ha3 (d_Tokens_add 15 29 (.iastore) 1 rfl) rfl (fun V4 hV4 => ?_)
    replace h := wV_some h V4 hV4
    refine Ak_aload_n 31 0 (d_Tokens_add 16 30 (.aload_n 0) 1 rfl) rfl rfl rfl ?_
    refine Ak_getF 34 3 hO clX9 (by decide) rfl lkF_Tokens_21 (d_Tokens_add 17 31 (.getfield 21) 3 rfl) rfl ?_
    refine Ak_aload_n 35 0 (d_Tokens_add 18 34 (.aload_n 0) 1 rfl) rfl rfl rfl ?_
    refine Ak_getI 38 4 hO clX9 (by decide) (Or.inl rfl) lkF_Tokens_24 (d_Tokens_add 19 35 (.getfield 24) 3 rfl) rfl ?_
    refine Ak_iload_n 39 3 (d_Tokens_add 20 38 (.iload_n 3) 1 rfl) rfl rfl rfl ?_
    obtain ⟨ha5, h⟩ := gd_some h
    refine Ak_iastore 40 ha5 (d_Tokens_add 21 39 (.iastore) 1 rfl) rfl (fun V6 hV6 => ?_)
    replace h := wV_some h V6 hV6
    refine Ak_aload_n 41 0 (d_Tokens_add 22 40 (.aload_n 0) 1 rfl) rfl rfl rfl ?_
    refine Ak_dup 42 (d_Tokens_add 23 41 (.dup) 1 rfl) rfl rfl ?_
    refine Ak_getI 45 4 hO clX9 (by decide) (Or.inl rfl) lkF_Tokens_24 (d_Tokens_add 24 42 (.getfield 24) 3 rfl) rfl ?_
    refine Ak_iconst 46 (d_Tokens_add 25 45 (.iconst 1) 1 rfl) rfl (rk rfl) ?_
    refine Ak_iadd 47 (d_Tokens_add 26 46 (.iadd) 1 rfl) rfl ?_
    refine Ak_putI 50 4 hO clX9 (by decide) rfl rfl rfl lkF_Tokens_24 (d_Tokens_add 27 47 (.putfield 24) 3 rfl) rfl (fun V7 hV7 => ?_)
    replace h := wV_some h V7 hV7
    refine Ak_iload_n 51 1 (d_Tokens_add 28 50 (.iload_n 1) 1 rfl) rfl rfl rfl ?_
    cases h
    exact Ak_iret rfl (d_Tokens_add 29 51 (.ireturn) 1 rfl)
theorem c_Tokens_isLetter {S : ASh} {V : ASt} {x0 : Int} {r : Int} {V' : ASt} (h : f_Tokens_isLetter S V x0 = some (r, V')) : ACt m_Tokens_isLetter 2 0 0 [(aI x0)] S V (some (aI r)) S V' := by
  unfold f_Tokens_isLetter at h
  refine ACt_of (plainFor_of_name rfl) rfl (Nat.le_of_ble_eq_true rfl) ?_
  show AWk m_Tokens_isLetter 2 0 0 0 0 0 [some (aI x0)] [] S V (some (aI r)) S V'
  refine Ak_iload_n 1 0 (d_Tokens_isLetter 0 0 (.iload_n 0) 1 rfl) rfl rfl rfl ?_
  refine Ak_bipush 3 (d_Tokens_isLetter 1 1 (.bipush 97) 2 rfl) rfl (bp_ok rfl) (rk rfl) ?_
  refine Ak_icmp_lt 16 6 (d_Tokens_isLetter 2 3 (.if_icmp .lt 13) 3 rfl) rfl rfl (fun hc => ?_) (fun hc => ?_)
  · replace h := it_t hc h
    refine Ak_iconst 17 (d_Tokens_isLetter 8 16 (.iconst 0) 1 rfl) rfl (rk rfl) ?_
    cases h
    exact Ak_zret (Or.inl rfl) rfl (d_Tokens_isLetter 9 17 (.ireturn) 1 rfl)
  · replace h := it_f hc h
    refine Ak_iload_n 7 0 (d_Tokens_isLetter 3 6 (.iload_n 0) 1 rfl) rfl rfl rfl ?_
    refine Ak_bipush 9 (d_Tokens_isLetter 4 7 (.bipush 122) 2 rfl) rfl (bp_ok rfl) (rk rfl) ?_
    refine Ak_icmp_gt 16 12 (d_Tokens_isLetter 5 9 (.if_icmp .gt 7) 3 rfl) rfl rfl (fun hc => ?_) (fun hc => ?_)
    · replace h := it_t hc h
      refine Ak_iconst 17 (d_Tokens_isLetter 8 16 (.iconst 0) 1 rfl) rfl (rk rfl) ?_
      cases h
      exact Ak_zret (Or.inl rfl) rfl (d_Tokens_isLetter 9 17 (.ireturn) 1 rfl)
    · replace h := it_f hc h
      refine Ak_iconst 13 (d_Tokens_isLetter 6 12 (.iconst 1) 1 rfl) rfl (rk rfl) ?_
      refine Ak_goto 17 (d_Tokens_isLetter 7 13 (.goto 4) 3 rfl) rfl ?_
      cases h
      exact Ak_zret (Or.inr rfl) rfl (d_Tokens_isLetter 9 17 (.ireturn) 1 rfl)
theorem c_Tokens_isDigit {S : ASh} {V : ASt} {x0 : Int} {r : Int} {V' : ASt} (h : f_Tokens_isDigit S V x0 = some (r, V')) : ACt m_Tokens_isDigit 2 0 0 [(aI x0)] S V (some (aI r)) S V' := by
  unfold f_Tokens_isDigit at h
  refine ACt_of (plainFor_of_name rfl) rfl (Nat.le_of_ble_eq_true rfl) ?_
  show AWk m_Tokens_isDigit 2 0 0 0 0 0 [some (aI x0)] [] S V (some (aI r)) S V'
  refine Ak_iload_n 1 0 (d_Tokens_isDigit 0 0 (.iload_n 0) 1 rfl) rfl rfl rfl ?_
  refine Ak_bipush 3 (d_Tokens_isDigit 1 1 (.bipush 48) 2 rfl) rfl (bp_ok rfl) (rk rfl) ?_
  refine Ak_icmp_lt 16 6 (d_Tokens_isDigit 2 3 (.if_icmp .lt 13) 3 rfl) rfl rfl (fun hc => ?_) (fun hc => ?_)
  · replace h := it_t hc h
    refine Ak_iconst 17 (d_Tokens_isDigit 8 16 (.iconst 0) 1 rfl) rfl (rk rfl) ?_
    cases h
    exact Ak_zret (Or.inl rfl) rfl (d_Tokens_isDigit 9 17 (.ireturn) 1 rfl)
  · replace h := it_f hc h
    refine Ak_iload_n 7 0 (d_Tokens_isDigit 3 6 (.iload_n 0) 1 rfl) rfl rfl rfl ?_
    refine Ak_bipush 9 (d_Tokens_isDigit 4 7 (.bipush 57) 2 rfl) rfl (bp_ok rfl) (rk rfl) ?_
    refine Ak_icmp_gt 16 12 (d_Tokens_isDigit 5 9 (.if_icmp .gt 7) 3 rfl) rfl rfl (fun hc => ?_) (fun hc => ?_)
    · replace h := it_t hc h
      refine Ak_iconst 17 (d_Tokens_isDigit 8 16 (.iconst 0) 1 rfl) rfl (rk rfl) ?_
      cases h
      exact Ak_zret (Or.inl rfl) rfl (d_Tokens_isDigit 9 17 (.ireturn) 1 rfl)
    · replace h := it_f hc h
      refine Ak_iconst 13 (d_Tokens_isDigit 6 12 (.iconst 1) 1 rfl) rfl (rk rfl) ?_
      refine Ak_goto 17 (d_Tokens_isDigit 7 13 (.goto 4) 3 rfl) rfl ?_
      cases h
      exact Ak_zret (Or.inr rfl) rfl (d_Tokens_isDigit 9 17 (.ireturn) 1 rfl)
theorem c_Tokens_withLetter {S : ASh} {V : ASt} {x0 x1 x2 : Int} {r : Int} {V' : ASt} (h : f_Tokens_withLetter S V x0 x1 x2 = some (r, V')) : ACt m_Tokens_withLetter 2 0 0 [(aI x0), (aI x1), (aI x2)] S V (some (aI r)) S V' := by
  unfold f_Tokens_withLetter at h
  refine ACt_of (plainFor_of_name rfl) rfl (Nat.le_of_ble_eq_true rfl) ?_
  show AWk m_Tokens_withLetter 2 0 0 0 0 0 [some (aI x0), some (aI x1), some (aI x2)] [] S V (some (aI r)) S V'
  refine Ak_iload_n 1 0 (d_Tokens_withLetter 0 0 (.iload_n 0) 1 rfl) rfl rfl rfl ?_
  refine Ak_iload_n 2 2 (d_Tokens_withLetter 1 1 (.iload_n 2) 1 rfl) rfl rfl rfl ?_
  refine Ak_bipush 4 (d_Tokens_withLetter 2 2 (.bipush 97) 2 rfl) rfl (bp_ok rfl) (rk rfl) ?_
  refine Ak_isub 5 (d_Tokens_withLetter 3 4 (.isub) 1 rfl) rfl ?_
  refine Ak_iconst 6 (d_Tokens_withLetter 4 5 (.iconst 1) 1 rfl) rfl (rk rfl) ?_
  refine Ak_iadd 7 (d_Tokens_withLetter 5 6 (.iadd) 1 rfl) rfl ?_
  refine Ak_iconst 8 (d_Tokens_withLetter 6 7 (.iconst 5) 1 rfl) rfl (rk rfl) ?_
  refine Ak_iconst 9 (d_Tokens_withLetter 7 8 (.iconst 5) 1 rfl) rfl (rk rfl) ?_
  refine Ak_iload_n 10 1 (d_Tokens_withLetter 8 9 (.iload_n 1) 1 rfl) rfl rfl rfl ?_
  refine Ak_isub 11 (d_Tokens_withLetter 9 10 (.isub) 1 rfl) rfl ?_
  refine Ak_imul 12 (d_Tokens_withLetter 10 11 (.imul) 1 rfl) rfl ?_
  refine Ak_ishl 13 (d_Tokens_withLetter 11 12 (.ishl) 1 rfl) rfl ?_
  refine Ak_ior 14 (d_Tokens_withLetter 12 13 (.ior) 1 rfl) rfl ?_
  cases h
  exact Ak_iret rfl (d_Tokens_withLetter 13 14 (.ireturn) 1 rfl)
theorem t_Tokens_cutWord_L92 {S : ASh} {x0 x2 x3 : Int} (hO : isO S x0 9 = true) : ∀ (n : Nat) (V : ASt) (x4 x5 : Int) (r : Int) (V' : ASt), b_Tokens_cutWord_L92 S x0 x2 x3 n V x4 x5 = some (r, V') → AWk m_Tokens_cutWord 3 0 0 0 0 92 [some (aR x0), none, some (aI x2), some (aI x3), some (aI x4), some (aI x5)] [] S V (some (aI r)) S V' := by
  intro n
  induction n with
  | zero => intro V x4 x5 r V' h; cases h
  | succ n ih =>
    intro V x4 x5 r V' h
    replace ih : ∀ {V : ASt} {x4 x5 : Int} {r : Int} {V' : ASt}, b_Tokens_cutWord_L92 S x0 x2 x3 n V x4 x5 = some (r, V') → AWk m_Tokens_cutWord 3 0 0 0 0 92 [some (aR x0), none, some (aI x2), some (aI x3), some (aI x4), some (aI x5)] [] S V (some (aI r)) S V' := fun h => ih _ _ _ _ _ h
    rw [b_Tokens_cutWord_L92] at h
    refine Ak_iload 94 (d_Tokens_cutWord 51 92 (.iload 5) 2 rfl) rfl rfl ?_
    refine Ak_bipush 96 (d_Tokens_cutWord 52 94 (.bipush 23) 2 rfl) rfl (bp_ok rfl) (rk rfl) ?_
    refine Ak_icmp_ge 124 99 (d_Tokens_cutWord 53 96 (.if_icmp .ge 28) 3 rfl) rfl rfl (fun hc => ?_) (fun hc => ?_)
    · replace h := it_t hc h
      refine Ak_aload_n 125 0 (d_Tokens_cutWord 66 124 (.aload_n 0) 1 rfl) rfl rfl rfl ?_
      refine Ak_iload 127 (d_Tokens_cutWord 67 125 (.iload 4) 2 rfl) rfl rfl ?_
      refine Ak_iload_n 128 2 (d_Tokens_cutWord 68 127 (.iload_n 2) 1 rfl) rfl rfl rfl ?_
      refine Ak_iload_n 129 3 (d_Tokens_cutWord 69 128 (.iload_n 3) 1 rfl) rfl rfl rfl ?_
      obtain ⟨r1, V2, h3, h⟩ := bnd_some h
      refine Ak_cV1 132 2 (c_Tokens_add h3) rfl hO clX9 rfl mok_Tokens_add lkM_Tokens_63 (d_Tokens_cutWord 70 129 (.invokevirtual 63) 3 rfl) rfl (by decide) (Nat.le_of_ble_eq_true rfl) ?_
      cases h
      exact Ak_iret rfl (d_Tokens_cutWord 71 132 (.ireturn) 1 rfl)
    · replace h := it_f hc h
      refine Ak_aload_n 100 0 (d_Tokens_cutWord 54 99 (.aload_n 0) 1 rfl) rfl rfl rfl ?_
      refine Ak_getF 103 0 hO clX9 (by decide) rfl lkF_Tokens_11 (d_Tokens_cutWord 55 100 (.getfield 11) 3 rfl) rfl ?_
      refine Ak_iload 105 (d_Tokens_cutWord 56 103 (.iload 5) 2 rfl) rfl rfl ?_
      obtain ⟨ha4, h⟩ := gd_some h
      refine Ak_iaload 106 ha4 (d_Tokens_cutWord 57 105 (.iaload) 1 rfl) rfl ?_
      refine Ak_iload_n 107 3 (d_Tokens_cutWord 58 106 (.iload_n 3) 1 rfl) rfl rfl rfl ?_
      refine Ak_icmp_ne 118 110 (d_Tokens_cutWord 59 107 (.if_icmp .ne 11) 3 rfl) rfl rfl (fun hc => ?_) (fun hc => ?_)
      · replace h := it_f hc h
        refine Ak_iinc 121 (d_Tokens_cutWord 64 118 (.iinc 5 1) 3 rfl) rfl rfl (by decide) ?_
        refine Ak_goto 92 (d_Tokens_cutWord 65 121 (.goto (-29)) 3 rfl) rfl ?_
        refine Ak_keep [true, false, true, true, true, true] ?_
        exact ih h
      · replace h := it_t hc h
        refine Ak_sipush 113 (d_Tokens_cutWord 60 110 (.sipush 256) 3 rfl) rfl (sp_ok rfl) (rk rfl) ?_
        refine Ak_iload 115 (d_Tokens_cutWord 61 113 (.iload 5) 2 rfl) rfl rfl ?_
        refine Ak_iadd 116 (d_Tokens_cutWord 62 115 (.iadd) 1 rfl) rfl ?_
        refine Ak_istore 118 (d_Tokens_cutWord 63 116 (.istore 4) 2 rfl) rfl (by decide) ?_
        refine Ak_iinc 121 (d_Tokens_cutWord 64 118 (.iinc 5 1) 3 rfl) rfl rfl (by decide) ?_
        refine Ak_goto 92 (d_Tokens_cutWord 65 121 (.goto (-29)) 3 rfl) rfl ?_
        refine Ak_keep [true, false, true, true, true, true] ?_
        exact ih h
theorem t_Tokens_cutWord_L7 {S : ASh} {x0 x1 x2 : Int} (hO : isO S x0 9 = true) : ∀ (n : Nat) (V : ASt) (x3 : Int) (r : Int) (V' : ASt), b_Tokens_cutWord_L7 S x0 x1 x2 n V x3 = some (r, V') → AWk m_Tokens_cutWord 3 0 0 0 0 7 [some (aR x0), some (aR x1), some (aI x2), some (aI x3)] [] S V (some (aI r)) S V' := by
  intro n
  induction n with
  | zero => intro V x3 r V' h; cases h
  | succ n ih =>
    intro V x3 r V' h
    replace ih : ∀ {V : ASt} {x3 : Int} {r : Int} {V' : ASt}, b_Tokens_cutWord_L7 S x0 x1 x2 n V x3 = some (r, V') → AWk m_Tokens_cutWord 3 0 0 0 0 7 [some (aR x0), some (aR x1), some (aI x2), some (aI x3)] [] S V (some (aI r)) S V' := fun h => ih _ _ _ _ h
    rw [b_Tokens_cutWord_L7] at h
    refine Ak_aload_n 8 0 (d_Tokens_cutWord 5 7 (.aload_n 0) 1 rfl) rfl rfl rfl ?_
    refine Ak_getI 11 5 hO clX9 (by decide) (Or.inl rfl) lkF_Tokens_28 (d_Tokens_cutWord 6 8 (.getfield 28) 3 rfl) rfl ?_
    refine Ak_aload_n 12 1 (d_Tokens_cutWord 7 11 (.aload_n 1) 1 rfl) rfl rfl rfl ?_
    obtain ⟨hg5, h⟩ := gd_some h
    refine Ak_getI 15 0 hg5 clX0 (by decide) (Or.inl rfl) lkF_Tokens_47 (d_Tokens_cutWord 8 12 (.getfield 47) 3 rfl) rfl ?_
    refine Ak_icmp_ge 86 18 (d_Tokens_cutWord 9 15 (.if_icmp .ge 71) 3 rfl) rfl rfl (fun hc => ?_) (fun hc => ?_)
    · replace h := it_t hc h
      refine Ak_iconst 87 (d_Tokens_cutWord 47 86 (.iconst 2) 1 rfl) rfl (rk rfl) ?_
      refine Ak_istore 89 (d_Tokens_cutWord 48 87 (.istore 4) 2 rfl) rfl (by decide) ?_
      refine Ak_iconst 90 (d_Tokens_cutWord 49 89 (.iconst 0) 1 rfl) rfl (rk rfl) ?_
      refine Ak_istore 92 (d_Tokens_cutWord 50 90 (.istore 5) 2 rfl) rfl (by decide) ?_
      refine Ak_keep [true, false, true, true, true, true] ?_
      exact t_Tokens_cutWord_L92 hO FU _ _ _ _ _ h
    · replace h := it_f hc h
      refine Ak_aload_n 19 1 (d_Tokens_cutWord 10 18 (.aload_n 1) 1 rfl) rfl rfl rfl ?_
      refine Ak_aload_n 20 0 (d_Tokens_cutWord 11 19 (.aload_n 0) 1 rfl) rfl rfl rfl ?_
      refine Ak_getI 23 5 hO clX9 (by decide) (Or.inl rfl) lkF_Tokens_28 (d_Tokens_cutWord 12 20 (.getfield 28) 3 rfl) rfl ?_
      obtain ⟨r6, V7, h8, h⟩ := bnd_some h
      refine Ak_cV1 26 2 (c_Bytes_at h8) rfl hg5 clX0 rfl mok_Bytes_at lkM_Tokens_51 (d_Tokens_cutWord 13 23 (.invokevirtual 51) 3 rfl) rfl (by decide) (Nat.le_of_ble_eq_true rfl) ?_
      obtain ⟨r9, V10, h11, h⟩ := bnd_some h
      refine Ak_cS1 29 2 (c_Tokens_isLetter h11) rfl mok_Tokens_isLetter lkM_Tokens_66 (d_Tokens_cutWord 14 26 (.invokestatic 66) 3 rfl) rfl (by decide) (Nat.le_of_ble_eq_true rfl) ?_
      refine Ak_if_eq 86 32 (d_Tokens_cutWord 15 29 (.ifCond .eq 57) 3 rfl) rfl rfl (fun hc => ?_) (fun hc => ?_)
      · replace h := it_t hc h
        refine Ak_iconst 87 (d_Tokens_cutWord 47 86 (.iconst 2) 1 rfl) rfl (rk rfl) ?_
        refine Ak_istore 89 (d_Tokens_cutWord 48 87 (.istore 4) 2 rfl) rfl (by decide) ?_
        refine Ak_iconst 90 (d_Tokens_cutWord 49 89 (.iconst 0) 1 rfl) rfl (rk rfl) ?_
        refine Ak_istore 92 (d_Tokens_cutWord 50 90 (.istore 5) 2 rfl) rfl (by decide) ?_
        refine Ak_keep [true, false, true, true, true, true] ?_
        exact t_Tokens_cutWord_L92 hO FU _ _ _ _ _ h
      · replace h := it_f hc h
        refine Ak_aload_n 33 0 (d_Tokens_cutWord 16 32 (.aload_n 0) 1 rfl) rfl rfl rfl ?_
        refine Ak_getI 36 5 hO clX9 (by decide) (Or.inl rfl) lkF_Tokens_28 (d_Tokens_cutWord 17 33 (.getfield 28) 3 rfl) rfl ?_
        refine Ak_iload_n 37 2 (d_Tokens_cutWord 18 36 (.iload_n 2) 1 rfl) rfl rfl rfl ?_
        refine Ak_isub 38 (d_Tokens_cutWord 19 37 (.isub) 1 rfl) rfl ?_
        refine Ak_bipush 40 (d_Tokens_cutWord 20 38 (.bipush 6) 2 rfl) rfl (bp_ok rfl) (rk rfl) ?_
        refine Ak_icmp_ne 54 43 (d_Tokens_cutWord 21 40 (.if_icmp .ne 14) 3 rfl) rfl rfl (fun hc => ?_) (fun hc => ?_)
        · replace h := it_f hc h
          refine Ak_iload_n 55 3 (d_Tokens_cutWord 29 54 (.iload_n 3) 1 rfl) rfl rfl rfl ?_
          refine Ak_aload_n 56 0 (d_Tokens_cutWord 30 55 (.aload_n 0) 1 rfl) rfl rfl rfl ?_
          refine Ak_getI 59 5 hO clX9 (by decide) (Or.inl rfl) lkF_Tokens_28 (d_Tokens_cutWord 31 56 (.getfield 28) 3 rfl) rfl ?_
          refine Ak_iload_n 60 2 (d_Tokens_cutWord 32 59 (.iload_n 2) 1 rfl) rfl rfl rfl ?_
          refine Ak_isub 61 (d_Tokens_cutWord 33 60 (.isub) 1 rfl) rfl ?_
          refine Ak_aload_n 62 1 (d_Tokens_cutWord 34 61 (.aload_n 1) 1 rfl) rfl rfl rfl ?_
          refine Ak_aload_n 63 0 (d_Tokens_cutWord 35 62 (.aload_n 0) 1 rfl) rfl rfl rfl ?_
          refine Ak_getI 66 5 hO clX9 (by decide) (Or.inl rfl) lkF_Tokens_28 (d_Tokens_cutWord 36 63 (.getfield 28) 3 rfl) rfl ?_
          obtain ⟨r12, V13, h14, h⟩ := bnd_some h
          refine Ak_cV1 69 2 (c_Bytes_at h14) rfl hg5 clX0 rfl mok_Bytes_at lkM_Tokens_51 (d_Tokens_cutWord 37 66 (.invokevirtual 51) 3 rfl) rfl (by decide) (Nat.le_of_ble_eq_true rfl) ?_
          obtain ⟨r15, V16, h17, h⟩ := bnd_some h
          refine Ak_cS1 72 2 (c_Tokens_withLetter h17) rfl mok_Tokens_withLetter lkM_Tokens_43 (d_Tokens_cutWord 38 69 (.invokestatic 43) 3 rfl) rfl (by decide) (Nat.le_of_ble_eq_true rfl) ?_
          refine Ak_istore_n 73 3 (d_Tokens_cutWord 39 72 (.istore_n 3) 1 rfl) rfl rfl (by decide) ?_
          refine Ak_aload_n 74 0 (d_Tokens_cutWord 40 73 (.aload_n 0) 1 rfl) rfl rfl rfl ?_
          refine Ak_dup 75 (d_Tokens_cutWord 41 74 (.dup) 1 rfl) rfl rfl ?_
          refine Ak_getI 78 5 hO clX9 (by decide) (Or.inl rfl) lkF_Tokens_28 (d_Tokens_cutWord 42 75 (.getfield 28) 3 rfl) rfl ?_
          refine Ak_iconst 79 (d_Tokens_cutWord 43 78 (.iconst 1) 1 rfl) rfl (rk rfl) ?_
          refine Ak_iadd 80 (d_Tokens_cutWord 44 79 (.iadd) 1 rfl) rfl ?_
          refine Ak_putI 83 5 hO clX9 (by decide) rfl rfl rfl lkF_Tokens_28 (d_Tokens_cutWord 45 80 (.putfield 28) 3 rfl) rfl (fun V18 hV18 => ?_)
          replace h := wV_some h V18 hV18
          refine Ak_goto 7 (d_Tokens_cutWord 46 83 (.goto (-76)) 3 rfl) rfl ?_
          refine Ak_keep [true, true, true, true] ?_
          exact ih h
        · replace h := it_t hc h
          refine Ak_aload_n 44 0 (d_Tokens_cutWord 22 43 (.aload_n 0) 1 rfl) rfl rfl rfl ?_
          refine Ak_iconst 45 (d_Tokens_cutWord 23 44 (.iconst 1) 1 rfl) rfl (rk rfl) ?_
          refine Ak_aload_n 46 0 (d_Tokens_cutWord 24 45 (.aload_n 0) 1 rfl) rfl rfl rfl ?_
          refine Ak_getI 49 5 hO clX9 (by decide) (Or.inl rfl) lkF_Tokens_28 (d_Tokens_cutWord 25 46 (.getfield 28) 3 rfl) rfl ?_
          refine Ak_iconst 50 (d_Tokens_cutWord 26 49 (.iconst 0) 1 rfl) rfl (rk rfl) ?_
          obtain ⟨r19, V20, h21, h⟩ := bnd_some h
          refine Ak_cV1 53 2 (c_Tokens_add h21) rfl hO clX9 rfl mok_Tokens_add lkM_Tokens_63 (d_Tokens_cutWord 27 50 (.invokevirtual 63) 3 rfl) rfl (by decide) (Nat.le_of_ble_eq_true rfl) ?_
          cases h
          exact Ak_iret rfl (d_Tokens_cutWord 28 53 (.ireturn) 1 rfl)
theorem c_Tokens_cutWord {S : ASh} {V : ASt} {x0 x1 : Int} {r : Int} {V' : ASt} (h : f_Tokens_cutWord S V x0 x1 = some (r, V')) : ACt m_Tokens_cutWord 3 0 0 [(aR x0), (aR x1)] S V (some (aI r)) S V' := by
  unfold f_Tokens_cutWord at h
  obtain ⟨hO, h⟩ := gd_some h
  refine ACt_of (plainFor_of_name rfl) rfl (Nat.le_of_ble_eq_true rfl) ?_
  show AWk m_Tokens_cutWord 3 0 0 0 0 0 [some (aR x0), some (aR x1)] [] S V (some (aI r)) S V'
  refine Ak_aload_n 1 0 (d_Tokens_cutWord 0 0 (.aload_n 0) 1 rfl) rfl rfl rfl ?_
  refine Ak_getI 4 5 hO clX9 (by decide) (Or.inl rfl) lkF_Tokens_28 (d_Tokens_cutWord 1 1 (.getfield 28) 3 rfl) rfl ?_
  refine Ak_istore_n 5 2 (d_Tokens_cutWord 2 4 (.istore_n 2) 1 rfl) rfl rfl (by decide) ?_
  refine Ak_iconst 6 (d_Tokens_cutWord 3 5 (.iconst 0) 1 rfl) rfl (rk rfl) ?_
  refine Ak_istore_n 7 3 (d_Tokens_cutWord 4 6 (.istore_n 3) 1 rfl) rfl rfl (by decide) ?_
  refine Ak_keep [true, true, true, true] ?_
  exact t_Tokens_cutWord_L7 hO FU _ _ _ _ h
theorem t_Tokens_cutNumber_J83 {S : ASh} {V : ASt} {x0 x2 x3 : Int} {r : Int} {V' : ASt} (hO : isO S x0 9 = true) (h : b_Tokens_cutNumber_J83 S  V x0 x2 x3 = some (r, V')) : AWk m_Tokens_cutNumber 3 0 0 0 0 83 [some (aR x0), none, some (aI x2), some (aI x3)] [] S V (some (aI r)) S V' := by
  unfold b_Tokens_cutNumber_J83 at h
  refine Ak_aload_n 84 0 (d_Tokens_cutNumber 47 83 (.aload_n 0) 1 rfl) rfl rfl rfl ?_
  refine Ak_iconst 85 (d_Tokens_cutNumber 48 84 (.iconst 3) 1 rfl) rfl (rk rfl) ?_
  refine Ak_iload_n 86 2 (d_Tokens_cutNumber 49 85 (.iload_n 2) 1 rfl) rfl rfl rfl ?_
  refine Ak_iload_n 87 3 (d_Tokens_cutNumber 50 86 (.iload_n 3) 1 rfl) rfl rfl rfl ?_
  obtain ⟨r1, V2, h3, h⟩ := bnd_some h
  refine Ak_cV1 90 2 (c_Tokens_add h3) rfl hO clX9 rfl mok_Tokens_add lkM_Tokens_63 (d_Tokens_cutNumber 51 87 (.invokevirtual 63) 3 rfl) rfl (by decide) (Nat.le_of_ble_eq_true rfl) ?_
  cases h
  exact Ak_iret rfl (d_Tokens_cutNumber 52 90 (.ireturn) 1 rfl)
theorem t_Tokens_cutNumber_L7 {S : ASh} {x0 x1 x2 : Int} (hO : isO S x0 9 = true) : ∀ (n : Nat) (V : ASt) (x3 : Int) (r : Int) (V' : ASt), b_Tokens_cutNumber_L7 S x0 x1 x2 n V x3 = some (r, V') → AWk m_Tokens_cutNumber 3 0 0 0 0 7 [some (aR x0), some (aR x1), some (aI x2), some (aI x3)] [] S V (some (aI r)) S V' := by
  intro n
  induction n with
  | zero => intro V x3 r V' h; cases h
  | succ n ih =>
    intro V x3 r V' h
    replace ih : ∀ {V : ASt} {x3 : Int} {r : Int} {V' : ASt}, b_Tokens_cutNumber_L7 S x0 x1 x2 n V x3 = some (r, V') → AWk m_Tokens_cutNumber 3 0 0 0 0 7 [some (aR x0), some (aR x1), some (aI x2), some (aI x3)] [] S V (some (aI r)) S V' := fun h => ih _ _ _ _ h
    rw [b_Tokens_cutNumber_L7] at h
    refine Ak_aload_n 8 0 (d_Tokens_cutNumber 5 7 (.aload_n 0) 1 rfl) rfl rfl rfl ?_
    refine Ak_getI 11 5 hO clX9 (by decide) (Or.inl rfl) lkF_Tokens_28 (d_Tokens_cutNumber 6 8 (.getfield 28) 3 rfl) rfl ?_
    refine Ak_aload_n 12 1 (d_Tokens_cutNumber 7 11 (.aload_n 1) 1 rfl) rfl rfl rfl ?_
    obtain ⟨hg4, h⟩ := gd_some h
    refine Ak_getI 15 0 hg4 clX0 (by decide) (Or.inl rfl) lkF_Tokens_47 (d_Tokens_cutNumber 8 12 (.getfield 47) 3 rfl) rfl ?_
    refine Ak_icmp_ge 83 18 (d_Tokens_cutNumber 9 15 (.if_icmp .ge 68) 3 rfl) rfl rfl (fun hc => ?_) (fun hc => ?_)
    · replace h := it_t hc h
      refine Ak_keep [true, false, true, true] ?_
      exact t_Tokens_cutNumber_J83 hO h
    · replace h := it_f hc h
      refine Ak_aload_n 19 1 (d_Tokens_cutNumber 10 18 (.aload_n 1) 1 rfl) rfl rfl rfl ?_
      refine Ak_aload_n 20 0 (d_Tokens_cutNumber 11 19 (.aload_n 0) 1 rfl) rfl rfl rfl ?_
      refine Ak_getI 23 5 hO clX9 (by decide) (Or.inl rfl) lkF_Tokens_28 (d_Tokens_cutNumber 12 20 (.getfield 28) 3 rfl) rfl ?_
      obtain ⟨r5, V6, h7, h⟩ := bnd_some h
      refine Ak_cV1 26 2 (c_Bytes_at h7) rfl hg4 clX0 rfl mok_Bytes_at lkM_Tokens_51 (d_Tokens_cutNumber 13 23 (.invokevirtual 51) 3 rfl) rfl (by decide) (Nat.le_of_ble_eq_true rfl) ?_
      obtain ⟨r8, V9, h10, h⟩ := bnd_some h
      refine Ak_cS1 29 2 (c_Tokens_isDigit h10) rfl mok_Tokens_isDigit lkM_Tokens_69 (d_Tokens_cutNumber 14 26 (.invokestatic 69) 3 rfl) rfl (by decide) (Nat.le_of_ble_eq_true rfl) ?_
      refine Ak_if_eq 83 32 (d_Tokens_cutNumber 15 29 (.ifCond .eq 54) 3 rfl) rfl rfl (fun hc => ?_) (fun hc => ?_)
      · replace h := it_t hc h
        refine Ak_keep [true, false, true, true] ?_
        exact t_Tokens_cutNumber_J83 hO h
      · replace h := it_f hc h
        refine Ak_aload_n 33 0 (d_Tokens_cutNumber 16 32 (.aload_n 0) 1 rfl) rfl rfl rfl ?_
        refine Ak_getI 36 5 hO clX9 (by decide) (Or.inl rfl) lkF_Tokens_28 (d_Tokens_cutNumber 17 33 (.getfield 28) 3 rfl) rfl ?_
        refine Ak_iload_n 37 2 (d_Tokens_cutNumber 18 36 (.iload_n 2) 1 rfl) rfl rfl rfl ?_
        refine Ak_isub 38 (d_Tokens_cutNumber 19 37 (.isub) 1 rfl) rfl ?_
        refine Ak_iconst 39 (d_Tokens_cutNumber 20 38 (.iconst 4) 1 rfl) rfl (rk rfl) ?_
        refine Ak_icmp_ne 53 42 (d_Tokens_cutNumber 21 39 (.if_icmp .ne 14) 3 rfl) rfl rfl (fun hc => ?_) (fun hc => ?_)
        · replace h := it_f hc h
          refine Ak_iload_n 54 3 (d_Tokens_cutNumber 29 53 (.iload_n 3) 1 rfl) rfl rfl rfl ?_
          refine Ak_bipush 56 (d_Tokens_cutNumber 30 54 (.bipush 10) 2 rfl) rfl (bp_ok rfl) (rk rfl) ?_
          refine Ak_imul 57 (d_Tokens_cutNumber 31 56 (.imul) 1 rfl) rfl ?_
          refine Ak_aload_n 58 1 (d_Tokens_cutNumber 32 57 (.aload_n 1) 1 rfl) rfl rfl rfl ?_
          refine Ak_aload_n 59 0 (d_Tokens_cutNumber 33 58 (.aload_n 0) 1 rfl) rfl rfl rfl ?_
          refine Ak_getI 62 5 hO clX9 (by decide) (Or.inl rfl) lkF_Tokens_28 (d_Tokens_cutNumber 34 59 (.getfield 28) 3 rfl) rfl ?_
          obtain ⟨r11, V12, h13, h⟩ := bnd_some h
          refine Ak_cV1 65 2 (c_Bytes_at h13) rfl hg4 clX0 rfl mok_Bytes_at lkM_Tokens_51 (d_Tokens_cutNumber 35 62 (.invokevirtual 51) 3 rfl) rfl (by decide) (Nat.le_of_ble_eq_true rfl) ?_
          refine Ak_iadd 66 (d_Tokens_cutNumber 36 65 (.iadd) 1 rfl) rfl ?_
          refine Ak_bipush 68 (d_Tokens_cutNumber 37 66 (.bipush 48) 2 rfl) rfl (bp_ok rfl) (rk rfl) ?_
          refine Ak_isub 69 (d_Tokens_cutNumber 38 68 (.isub) 1 rfl) rfl ?_
          refine Ak_istore_n 70 3 (d_Tokens_cutNumber 39 69 (.istore_n 3) 1 rfl) rfl rfl (by decide) ?_
          refine Ak_aload_n 71 0 (d_Tokens_cutNumber 40 70 (.aload_n 0) 1 rfl) rfl rfl rfl ?_
          refine Ak_dup 72 (d_Tokens_cutNumber 41 71 (.dup) 1 rfl) rfl rfl ?_
          refine Ak_getI 75 5 hO clX9 (by decide) (Or.inl rfl) lkF_Tokens_28 (d_Tokens_cutNumber 42 72 (.getfield 28) 3 rfl) rfl ?_
          refine Ak_iconst 76 (d_Tokens_cutNumber 43 75 (.iconst 1) 1 rfl) rfl (rk rfl) ?_
          refine Ak_iadd 77 (d_Tokens_cutNumber 44 76 (.iadd) 1 rfl) rfl ?_
          refine Ak_putI 80 5 hO clX9 (by decide) rfl rfl rfl lkF_Tokens_28 (d_Tokens_cutNumber 45 77 (.putfield 28) 3 rfl) rfl (fun V14 hV14 => ?_)
          replace h := wV_some h V14 hV14
          refine Ak_goto 7 (d_Tokens_cutNumber 46 80 (.goto (-73)) 3 rfl) rfl ?_
          refine Ak_keep [true, true, true, true] ?_
          exact ih h
        · replace h := it_t hc h
          refine Ak_aload_n 43 0 (d_Tokens_cutNumber 22 42 (.aload_n 0) 1 rfl) rfl rfl rfl ?_
          refine Ak_iconst 44 (d_Tokens_cutNumber 23 43 (.iconst 1) 1 rfl) rfl (rk rfl) ?_
          refine Ak_aload_n 45 0 (d_Tokens_cutNumber 24 44 (.aload_n 0) 1 rfl) rfl rfl rfl ?_
          refine Ak_getI 48 5 hO clX9 (by decide) (Or.inl rfl) lkF_Tokens_28 (d_Tokens_cutNumber 25 45 (.getfield 28) 3 rfl) rfl ?_
          refine Ak_iconst 49 (d_Tokens_cutNumber 26 48 (.iconst 0) 1 rfl) rfl (rk rfl) ?_
          obtain ⟨r15, V16, h17, h⟩ := bnd_some h
          refine Ak_cV1 52 2 (c_Tokens_add h17) rfl hO clX9 rfl mok_Tokens_add lkM_Tokens_63 (d_Tokens_cutNumber 27 49 (.invokevirtual 63) 3 rfl) rfl (by decide) (Nat.le_of_ble_eq_true rfl) ?_
          cases h
          exact Ak_iret rfl (d_Tokens_cutNumber 28 52 (.ireturn) 1 rfl)
theorem c_Tokens_cutNumber {S : ASh} {V : ASt} {x0 x1 : Int} {r : Int} {V' : ASt} (h : f_Tokens_cutNumber S V x0 x1 = some (r, V')) : ACt m_Tokens_cutNumber 3 0 0 [(aR x0), (aR x1)] S V (some (aI r)) S V' := by
  unfold f_Tokens_cutNumber at h
  obtain ⟨hO, h⟩ := gd_some h
  refine ACt_of (plainFor_of_name rfl) rfl (Nat.le_of_ble_eq_true rfl) ?_
  show AWk m_Tokens_cutNumber 3 0 0 0 0 0 [some (aR x0), some (aR x1)] [] S V (some (aI r)) S V'
  refine Ak_aload_n 1 0 (d_Tokens_cutNumber 0 0 (.aload_n 0) 1 rfl) rfl rfl rfl ?_
  refine Ak_getI 4 5 hO clX9 (by decide) (Or.inl rfl) lkF_Tokens_28 (d_Tokens_cutNumber 1 1 (.getfield 28) 3 rfl) rfl ?_
  refine Ak_istore_n 5 2 (d_Tokens_cutNumber 2 4 (.istore_n 2) 1 rfl) rfl rfl (by decide) ?_
  refine Ak_iconst 6 (d_Tokens_cutNumber 3 5 (.iconst 0) 1 rfl) rfl (rk rfl) ?_
  refine Ak_istore_n 7 3 (d_Tokens_cutNumber 4 6 (.istore_n 3) 1 rfl) rfl rfl (by decide) ?_
  refine Ak_keep [true, true, true, true] ?_
  exact t_Tokens_cutNumber_L7 hO FU _ _ _ _ h
theorem c_Str_isLatin1 {S : ASh} {V : ASt} {x0 : Int} {r : Int} {V' : ASt} (h : f_Str_isLatin1 S V x0 = some (r, V')) : ACt m_Str_isLatin1 2 0 0 [(aR x0)] S V (some (aI r)) S V' := by
  unfold f_Str_isLatin1 at h
  obtain ⟨hO, h⟩ := gd_some h
  refine ACt_of (by decide +kernel) rfl (Nat.le_of_ble_eq_true rfl) ?_
  show AWk m_Str_isLatin1 2 0 0 0 0 0 [some (aR x0)] [] S V (some (aI r)) S V'
  refine Ak_getsC 3 lkF_Str_38 (d_Str_isLatin1 0 0 (.getstatic 38) 3 rfl) rfl ?_
  refine Ak_if_eq 17 6 (d_Str_isLatin1 1 3 (.ifCond .eq 14) 3 rfl) rfl rfl (fun hc => absurd hc (by decide)) (fun hc => ?_)
  refine Ak_aload_n 7 0 (d_Str_isLatin1 2 6 (.aload_n 0) 1 rfl) rfl rfl rfl ?_
  refine Ak_scod 10 hO lkF_Str_15 (d_Str_isLatin1 3 7 (.getfield 15) 3 rfl) rfl ?_
  refine Ak_if_ne 17 13 (d_Str_isLatin1 4 10 (.ifCond .ne 7) 3 rfl) rfl rfl (fun hc => absurd (by decide) hc) (fun hc => ?_)
  refine Ak_iconst 14 (d_Str_isLatin1 5 13 (.iconst 1) 1 rfl) rfl (rk rfl) ?_
  refine Ak_goto 18 (d_Str_isLatin1 6 14 (.goto 4) 3 rfl) rfl ?_
  cases h
  exact Ak_zret (Or.inr rfl) rfl (d_Str_isLatin1 8 18 (.ireturn) 1 rfl)
theorem c_Str_coder {S : ASh} {V : ASt} {x0 : Int} {r : Int} {V' : ASt} (h : f_Str_coder S V x0 = some (r, V')) : ACt m_Str_coder 2 0 0 [(aR x0)] S V (some (aI r)) S V' := by
  unfold f_Str_coder at h
  obtain ⟨hO, h⟩ := gd_some h
  refine ACt_of (by decide +kernel) rfl (Nat.le_of_ble_eq_true rfl) ?_
  show AWk m_Str_coder 2 0 0 0 0 0 [some (aR x0)] [] S V (some (aI r)) S V'
  refine Ak_getsC 3 lkF_Str_38 (d_Str_coder 0 0 (.getstatic 38) 3 rfl) rfl ?_
  refine Ak_if_eq 13 6 (d_Str_coder 1 3 (.ifCond .eq 10) 3 rfl) rfl rfl (fun hc => absurd hc (by decide)) (fun hc => ?_)
  refine Ak_aload_n 7 0 (d_Str_coder 2 6 (.aload_n 0) 1 rfl) rfl rfl rfl ?_
  refine Ak_scod 10 hO lkF_Str_15 (d_Str_coder 3 7 (.getfield 15) 3 rfl) rfl ?_
  refine Ak_goto 14 (d_Str_coder 4 10 (.goto 4) 3 rfl) rfl ?_
  obtain ⟨hb1, h⟩ := gd_some h
  cases h
  exact Ak_bret hb1 rfl (d_Str_coder 6 14 (.ireturn) 1 rfl)
theorem c_Str_length {S : ASh} {V : ASt} {x0 : Int} {r : Int} {V' : ASt} (h : f_Str_length S V x0 = some (r, V')) : ACt m_Str_length 3 0 0 [(aR x0)] S V (some (aI r)) S V' := by
  unfold f_Str_length at h
  obtain ⟨hO, h⟩ := gd_some h
  refine ACt_of (by decide +kernel) rfl (Nat.le_of_ble_eq_true rfl) ?_
  show AWk m_Str_length 3 0 0 0 0 0 [some (aR x0)] [] S V (some (aI r)) S V'
  refine Ak_aload_n 1 0 (d_Str_length 0 0 (.aload_n 0) 1 rfl) rfl rfl rfl ?_
  refine Ak_sval 4 hO lkF_Str_9 (d_Str_length 1 1 (.getfield 9) 3 rfl) rfl ?_
  obtain ⟨hs1, h⟩ := gd_some h
  refine Ak_blen 5 hs1 (d_Str_length 2 4 (.arraylength) 1 rfl) rfl ?_
  refine Ak_aload_n 6 0 (d_Str_length 3 5 (.aload_n 0) 1 rfl) rfl rfl rfl ?_
  obtain ⟨r2, V3, h4, h⟩ := bnd_some h
  refine Ak_cT 9 2 (c_Str_coder h4) rfl hO rfl mok_Str_coder lkM_Str_335 (d_Str_length 4 6 (.invokevirtual 335) 3 rfl) rfl (by decide) (by decide) (Nat.le_of_ble_eq_true rfl) ?_
  refine Ak_ishr 10 (d_Str_length 5 9 (.ishr) 1 rfl) rfl ?_
  cases h
  exact Ak_iret rfl (d_Str_length 6 10 (.ireturn) 1 rfl)
theorem c_Lat_canEncode {S : ASh} {V : ASt} {x0 : Int} {r : Int} {V' : ASt} (h : f_Lat_canEncode S V x0 = some (r, V')) : ACt m_Lat_canEncode 2 0 0 [(aI x0)] S V (some (aI r)) S V' := by
  unfold f_Lat_canEncode at h
  refine ACt_of (by decide +kernel) rfl (Nat.le_of_ble_eq_true rfl) ?_
  show AWk m_Lat_canEncode 2 0 0 0 0 0 [some (aI x0)] [] S V (some (aI r)) S V'
  refine Ak_iload_n 1 0 (d_Lat_canEncode 0 0 (.iload_n 0) 1 rfl) rfl rfl rfl ?_
  refine Ak_if_lt 15 4 (d_Lat_canEncode 1 1 (.ifCond .lt 14) 3 rfl) rfl rfl (fun hc => ?_) (fun hc => ?_)
  · replace h := it_t hc h
    refine Ak_iconst 16 (d_Lat_canEncode 7 15 (.iconst 0) 1 rfl) rfl (rk rfl) ?_
    cases h
    exact Ak_zret (Or.inl rfl) rfl (d_Lat_canEncode 8 16 (.ireturn) 1 rfl)
  · replace h := it_f hc h
    refine Ak_iload_n 5 0 (d_Lat_canEncode 2 4 (.iload_n 0) 1 rfl) rfl rfl rfl ?_
    refine Ak_sipush 8 (d_Lat_canEncode 3 5 (.sipush 255) 3 rfl) rfl (sp_ok rfl) (rk rfl) ?_
    refine Ak_icmp_gt 15 11 (d_Lat_canEncode 4 8 (.if_icmp .gt 7) 3 rfl) rfl rfl (fun hc => ?_) (fun hc => ?_)
    · replace h := it_t hc h
      refine Ak_iconst 16 (d_Lat_canEncode 7 15 (.iconst 0) 1 rfl) rfl (rk rfl) ?_
      cases h
      exact Ak_zret (Or.inl rfl) rfl (d_Lat_canEncode 8 16 (.ireturn) 1 rfl)
    · replace h := it_f hc h
      refine Ak_iconst 12 (d_Lat_canEncode 5 11 (.iconst 1) 1 rfl) rfl (rk rfl) ?_
      refine Ak_goto 16 (d_Lat_canEncode 6 12 (.goto 4) 3 rfl) rfl ?_
      cases h
      exact Ak_zret (Or.inr rfl) rfl (d_Lat_canEncode 8 16 (.ireturn) 1 rfl)
theorem c_Math_max_II {S : ASh} {V : ASt} {x0 x1 : Int} {r : Int} {V' : ASt} (h : f_Math_max_II S V x0 x1 = some (r, V')) : ACt m_Math_max_II 2 0 0 [(aI x0), (aI x1)] S V (some (aI r)) S V' := by
  unfold f_Math_max_II at h
  refine ACt_of (by decide +kernel) rfl (Nat.le_of_ble_eq_true rfl) ?_
  show AWk m_Math_max_II 2 0 0 0 0 0 [some (aI x0), some (aI x1)] [] S V (some (aI r)) S V'
  refine Ak_iload_n 1 0 (d_Math_max_II 0 0 (.iload_n 0) 1 rfl) rfl rfl rfl ?_
  refine Ak_iload_n 2 1 (d_Math_max_II 1 1 (.iload_n 1) 1 rfl) rfl rfl rfl ?_
  refine Ak_icmp_lt 9 5 (d_Math_max_II 2 2 (.if_icmp .lt 7) 3 rfl) rfl rfl (fun hc => ?_) (fun hc => ?_)
  · replace h := it_t hc h
    refine Ak_iload_n 10 1 (d_Math_max_II 5 9 (.iload_n 1) 1 rfl) rfl rfl rfl ?_
    cases h
    exact Ak_iret rfl (d_Math_max_II 6 10 (.ireturn) 1 rfl)
  · replace h := it_f hc h
    refine Ak_iload_n 6 0 (d_Math_max_II 3 5 (.iload_n 0) 1 rfl) rfl rfl rfl ?_
    refine Ak_goto 10 (d_Math_max_II 4 6 (.goto 4) 3 rfl) rfl ?_
    cases h
    exact Ak_iret rfl (d_Math_max_II 6 10 (.ireturn) 1 rfl)
theorem c_Math_min_II {S : ASh} {V : ASt} {x0 x1 : Int} {r : Int} {V' : ASt} (h : f_Math_min_II S V x0 x1 = some (r, V')) : ACt m_Math_min_II 2 0 0 [(aI x0), (aI x1)] S V (some (aI r)) S V' := by
  unfold f_Math_min_II at h
  refine ACt_of (by decide +kernel) rfl (Nat.le_of_ble_eq_true rfl) ?_
  show AWk m_Math_min_II 2 0 0 0 0 0 [some (aI x0), some (aI x1)] [] S V (some (aI r)) S V'
  refine Ak_iload_n 1 0 (d_Math_min_II 0 0 (.iload_n 0) 1 rfl) rfl rfl rfl ?_
  refine Ak_iload_n 2 1 (d_Math_min_II 1 1 (.iload_n 1) 1 rfl) rfl rfl rfl ?_
  refine Ak_icmp_gt 9 5 (d_Math_min_II 2 2 (.if_icmp .gt 7) 3 rfl) rfl rfl (fun hc => ?_) (fun hc => ?_)
  · replace h := it_t hc h
    refine Ak_iload_n 10 1 (d_Math_min_II 5 9 (.iload_n 1) 1 rfl) rfl rfl rfl ?_
    cases h
    exact Ak_iret rfl (d_Math_min_II 6 10 (.ireturn) 1 rfl)
  · replace h := it_f hc h
    refine Ak_iload_n 6 0 (d_Math_min_II 3 5 (.iload_n 0) 1 rfl) rfl rfl rfl ?_
    refine Ak_goto 10 (d_Math_min_II 4 6 (.goto 4) 3 rfl) rfl ?_
    cases h
    exact Ak_iret rfl (d_Math_min_II 6 10 (.ireturn) 1 rfl)
theorem t_Lat_indexOfChar_L7 {S : ASh} {x0 x3 x4 : Int} : ∀ (n : Nat) (V : ASt) (x5 : Int) (r : Int) (V' : ASt), b_Lat_indexOfChar_L7 S x0 x3 x4 n V x5 = some (r, V') → AWk m_Lat_indexOfChar 2 0 0 0 0 7 [some (aR x0), none, none, some (aI x3), some (aI x4), some (aI x5)] [] S V (some (aI r)) S V' := by
  intro n
  induction n with
  | zero => intro V x5 r V' h; cases h
  | succ n ih =>
    intro V x5 r V' h
    replace ih : ∀ {V : ASt} {x5 : Int} {r : Int} {V' : ASt}, b_Lat_indexOfChar_L7 S x0 x3 x4 n V x5 = some (r, V') → AWk m_Lat_indexOfChar 2 0 0 0 0 7 [some (aR x0), none, none, some (aI x3), some (aI x4), some (aI x5)] [] S V (some (aI r)) S V' := fun h => ih _ _ _ _ h
    rw [b_Lat_indexOfChar_L7] at h
    refine Ak_iload 9 (d_Lat_indexOfChar 5 7 (.iload 5) 2 rfl) rfl rfl ?_
    refine Ak_iload_n 10 3 (d_Lat_indexOfChar 6 9 (.iload_n 3) 1 rfl) rfl rfl rfl ?_
    refine Ak_icmp_ge 31 13 (d_Lat_indexOfChar 7 10 (.if_icmp .ge 21) 3 rfl) rfl rfl (fun hc => ?_) (fun hc => ?_)
    · replace h := it_t hc h
      refine Ak_iconst 32 (d_Lat_indexOfChar 17 31 (.iconst (-1)) 1 rfl) rfl (rk rfl) ?_
      cases h
      exact Ak_iret rfl (d_Lat_indexOfChar 18 32 (.ireturn) 1 rfl)
    · replace h := it_f hc h
      refine Ak_aload_n 14 0 (d_Lat_indexOfChar 8 13 (.aload_n 0) 1 rfl) rfl rfl rfl ?_
      refine Ak_iload 16 (d_Lat_indexOfChar 9 14 (.iload 5) 2 rfl) rfl rfl ?_
      obtain ⟨hs1, h⟩ := gd_some h
      refine Ak_bald 17 hs1 (d_Lat_indexOfChar 10 16 (.baload) 1 rfl) rfl ?_
      refine Ak_iload 19 (d_Lat_indexOfChar 11 17 (.iload 4) 2 rfl) rfl rfl ?_
      refine Ak_icmp_ne 25 22 (d_Lat_indexOfChar 12 19 (.if_icmp .ne 6) 3 rfl) rfl rfl (fun hc => ?_) (fun hc => ?_)
      · replace h := it_f hc h
        refine Ak_iinc 28 (d_Lat_indexOfChar 15 25 (.iinc 5 1) 3 rfl) rfl rfl (by decide) ?_
        refine Ak_goto 7 (d_Lat_indexOfChar 16 28 (.goto (-21)) 3 rfl) rfl ?_
        refine Ak_keep [true, false, false, true, true, true] ?_
        exact ih h
      · replace h := it_t hc h
        refine Ak_iload 24 (d_Lat_indexOfChar 13 22 (.iload 5) 2 rfl) rfl rfl ?_
        cases h
        exact Ak_iret rfl (d_Lat_indexOfChar 14 24 (.ireturn) 1 rfl)
theorem c_Lat_indexOfChar {S : ASh} {V : ASt} {x0 x1 x2 x3 : Int} {r : Int} {V' : ASt} (h : f_Lat_indexOfChar S V x0 x1 x2 x3 = some (r, V')) : ACt m_Lat_indexOfChar 2 0 0 [(aR x0), (aI x1), (aI x2), (aI x3)] S V (some (aI r)) S V' := by
  unfold f_Lat_indexOfChar at h
  refine ACt_of (by decide +kernel) rfl (Nat.le_of_ble_eq_true rfl) ?_
  show AWk m_Lat_indexOfChar 2 0 0 0 0 0 [some (aR x0), some (aI x1), some (aI x2), some (aI x3)] [] S V (some (aI r)) S V'
  refine Ak_iload_n 1 1 (d_Lat_indexOfChar 0 0 (.iload_n 1) 1 rfl) rfl rfl rfl ?_
  refine Ak_i2b 2 (d_Lat_indexOfChar 1 1 (.i2b) 1 rfl) rfl ?_
  refine Ak_istore 4 (d_Lat_indexOfChar 2 2 (.istore 4) 2 rfl) rfl (by decide) ?_
  refine Ak_iload_n 5 2 (d_Lat_indexOfChar 3 4 (.iload_n 2) 1 rfl) rfl rfl rfl ?_
  refine Ak_istore 7 (d_Lat_indexOfChar 4 5 (.istore 5) 2 rfl) rfl (by decide) ?_
  refine Ak_keep [true, false, false, true, true, true] ?_
  exact t_Lat_indexOfChar_L7  FU _ _ _ _ h
theorem c_Lat_indexOf {S : ASh} {V : ASt} {x0 x1 x2 x3 : Int} {r : Int} {V' : ASt} (h : f_Lat_indexOf S V x0 x1 x2 x3 = some (r, V')) : ACt m_Lat_indexOf 3 0 0 [(aR x0), (aI x1), (aI x2), (aI x3)] S V (some (aI r)) S V' := by
  unfold f_Lat_indexOf at h
  refine ACt_of (by decide +kernel) rfl (Nat.le_of_ble_eq_true rfl) ?_
  show AWk m_Lat_indexOf 3 0 0 0 0 0 [some (aR x0), some (aI x1), some (aI x2), some (aI x3)] [] S V (some (aI r)) S V'
  refine Ak_iload_n 1 1 (d_Lat_indexOf 0 0 (.iload_n 1) 1 rfl) rfl rfl rfl ?_
  obtain ⟨r1, V2, h3, h⟩ := bnd_some h
  refine Ak_cS1 4 2 (c_Lat_canEncode h3) rfl mok_Lat_canEncode lkM_Lat_88 (d_Lat_indexOf 1 1 (.invokestatic 88) 3 rfl) rfl (by decide) (Nat.le_of_ble_eq_true rfl) ?_
  refine Ak_if_ne 9 7 (d_Lat_indexOf 2 4 (.ifCond .ne 5) 3 rfl) rfl rfl (fun hc => ?_) (fun hc => ?_)
  · replace h := it_f hc h
    refine Ak_iload_n 10 2 (d_Lat_indexOf 5 9 (.iload_n 2) 1 rfl) rfl rfl rfl ?_
    refine Ak_iconst 11 (d_Lat_indexOf 6 10 (.iconst 0) 1 rfl) rfl (rk rfl) ?_
    obtain ⟨r4, V5, h6, h⟩ := bnd_some h
    refine Ak_cS1 14 2 (c_Math_max_II h6) rfl mok_Math_max_II lkM_Lat_92 (d_Lat_indexOf 7 11 (.invokestatic 92) 3 rfl) rfl (by decide) (Nat.le_of_ble_eq_true rfl) ?_
    refine Ak_istore_n 15 2 (d_Lat_indexOf 8 14 (.istore_n 2) 1 rfl) rfl rfl (by decide) ?_
    refine Ak_iload_n 16 3 (d_Lat_indexOf 9 15 (.iload_n 3) 1 rfl) rfl rfl rfl ?_
    refine Ak_aload_n 17 0 (d_Lat_indexOf 10 16 (.aload_n 0) 1 rfl) rfl rfl rfl ?_
    obtain ⟨hs7, h⟩ := gd_some h
    refine Ak_blen 18 hs7 (d_Lat_indexOf 11 17 (.arraylength) 1 rfl) rfl ?_
    obtain ⟨r8, V9, h10, h⟩ := bnd_some h
    refine Ak_cS1 21 2 (c_Math_min_II h10) rfl mok_Math_min_II lkM_Lat_38 (d_Lat_indexOf 12 18 (.invokestatic 38) 3 rfl) rfl (by decide) (Nat.le_of_ble_eq_true rfl) ?_
    refine Ak_istore_n 22 3 (d_Lat_indexOf 13 21 (.istore_n 3) 1 rfl) rfl rfl (by decide) ?_
    refine Ak_iload_n 23 2 (d_Lat_indexOf 14 22 (.iload_n 2) 1 rfl) rfl rfl rfl ?_
    refine Ak_iload_n 24 3 (d_Lat_indexOf 15 23 (.iload_n 3) 1 rfl) rfl rfl rfl ?_
    refine Ak_icmp_lt 29 27 (d_Lat_indexOf 16 24 (.if_icmp .lt 5) 3 rfl) rfl rfl (fun hc => ?_) (fun hc => ?_)
    · replace h := it_t hc h
      refine Ak_aload_n 30 0 (d_Lat_indexOf 19 29 (.aload_n 0) 1 rfl) rfl rfl rfl ?_
      refine Ak_iload_n 31 1 (d_Lat_indexOf 20 30 (.iload_n 1) 1 rfl) rfl rfl rfl ?_
      refine Ak_iload_n 32 2 (d_Lat_indexOf 21 31 (.iload_n 2) 1 rfl) rfl rfl rfl ?_
      refine Ak_iload_n 33 3 (d_Lat_indexOf 22 32 (.iload_n 3) 1 rfl) rfl rfl rfl ?_
      obtain ⟨r11, V12, h13, h⟩ := bnd_some h
      refine Ak_cS1 36 2 (c_Lat_indexOfChar h13) rfl mok_Lat_indexOfChar lkM_Lat_95 (d_Lat_indexOf 23 33 (.invokestatic 95) 3 rfl) rfl (by decide) (Nat.le_of_ble_eq_true rfl) ?_
      cases h
      exact Ak_iret rfl (d_Lat_indexOf 24 36 (.ireturn) 1 rfl)
    · replace h := it_f hc h
      refine Ak_iconst 28 (d_Lat_indexOf 17 27 (.iconst (-1)) 1 rfl) rfl (rk rfl) ?_
      cases h
      exact Ak_iret rfl (d_Lat_indexOf 18 28 (.ireturn) 1 rfl)
  · replace h := it_t hc h
    refine Ak_iconst 8 (d_Lat_indexOf 3 7 (.iconst (-1)) 1 rfl) rfl (rk rfl) ?_
    cases h
    exact Ak_iret rfl (d_Lat_indexOf 4 8 (.ireturn) 1 rfl)
theorem c_Str_indexOf_II {S : ASh} {V : ASt} {x0 x1 x2 : Int} {r : Int} {V' : ASt} (h : f_Str_indexOf_II S V x0 x1 x2 = some (r, V')) : ACt m_Str_indexOf_II 4 0 0 [(aR x0), (aI x1), (aI x2)] S V (some (aI r)) S V' := by
  unfold f_Str_indexOf_II at h
  obtain ⟨hO, h⟩ := gd_some h
  refine ACt_of (by decide +kernel) rfl (Nat.le_of_ble_eq_true rfl) ?_
  show AWk m_Str_indexOf_II 4 0 0 0 0 0 [some (aR x0), some (aI x1), some (aI x2)] [] S V (some (aI r)) S V'
  refine Ak_aload_n 1 0 (d_Str_indexOf_II 0 0 (.aload_n 0) 1 rfl) rfl rfl rfl ?_
  obtain ⟨r1, V2, h3, h⟩ := bnd_some h
  refine Ak_cT 4 2 (c_Str_isLatin1 h3) rfl hO rfl mok_Str_isLatin1 lkM_Str_492 (d_Str_indexOf_II 1 1 (.invokevirtual 492) 3 rfl) rfl (by decide) (by decide) (Nat.le_of_ble_eq_true rfl) ?_
  refine Ak_if_eq 23 7 (d_Str_indexOf_II 2 4 (.ifCond .eq 19) 3 rfl) rfl rfl (fun hc => ?_) (fun hc => ?_)
  · replace h := it_t hc h
    cases h
  · replace h := it_f hc h
    refine Ak_aload_n 8 0 (d_Str_indexOf_II 3 7 (.aload_n 0) 1 rfl) rfl rfl rfl ?_
    refine Ak_sval 11 hO lkF_Str_9 (d_Str_indexOf_II 4 8 (.getfield 9) 3 rfl) rfl ?_
    refine Ak_iload_n 12 1 (d_Str_indexOf_II 5 11 (.iload_n 1) 1 rfl) rfl rfl rfl ?_
    refine Ak_iload_n 13 2 (d_Str_indexOf_II 6 12 (.iload_n 2) 1 rfl) rfl rfl rfl ?_
    refine Ak_aload_n 14 0 (d_Str_indexOf_II 7 13 (.aload_n 0) 1 rfl) rfl rfl rfl ?_
    obtain ⟨r4, V5, h6, h⟩ := bnd_some h
    refine Ak_cT 17 3 (c_Str_length h6) rfl hO rfl mok_Str_length lkM_Str_505 (d_Str_indexOf_II 8 14 (.invokevirtual 505) 3 rfl) rfl (by decide) (by decide) (Nat.le_of_ble_eq_true rfl) ?_
    obtain ⟨r7, V8, h9, h⟩ := bnd_some h
    refine Ak_cS1 20 3 (c_Lat_indexOf h9) rfl mok_Lat_indexOf lkM_Str_637 (d_Str_indexOf_II 9 17 (.invokestatic 637) 3 rfl) rfl (by decide) (Nat.le_of_ble_eq_true rfl) ?_
    refine Ak_goto 36 (d_Str_indexOf_II 10 20 (.goto 16) 3 rfl) rfl ?_
    cases h
    exact Ak_iret rfl (d_Str_indexOf_II 12 36 (.ireturn) 1 rfl)
theorem c_Str_indexOf_I {S : ASh} {V : ASt} {x0 x1 : Int} {r : Int} {V' : ASt} (h : f_Str_indexOf_I S V x0 x1 = some (r, V')) : ACt m_Str_indexOf_I 5 0 0 [(aR x0), (aI x1)] S V (some (aI r)) S V' := by
  unfold f_Str_indexOf_I at h
  obtain ⟨hO, h⟩ := gd_some h
  refine ACt_of (by decide +kernel) rfl (Nat.le_of_ble_eq_true rfl) ?_
  show AWk m_Str_indexOf_I 5 0 0 0 0 0 [some (aR x0), some (aI x1)] [] S V (some (aI r)) S V'
  refine Ak_aload_n 1 0 (d_Str_indexOf_I 0 0 (.aload_n 0) 1 rfl) rfl rfl rfl ?_
  refine Ak_iload_n 2 1 (d_Str_indexOf_I 1 1 (.iload_n 1) 1 rfl) rfl rfl rfl ?_
  refine Ak_iconst 3 (d_Str_indexOf_I 2 2 (.iconst 0) 1 rfl) rfl (rk rfl) ?_
  obtain ⟨r1, V2, h3, h⟩ := bnd_some h
  refine Ak_cT 6 4 (c_Str_indexOf_II h3) rfl hO rfl mok_Str_indexOf_II lkM_Str_633 (d_Str_indexOf_I 3 3 (.invokevirtual 633) 3 rfl) rfl (by decide) (by decide) (Nat.le_of_ble_eq_true rfl) ?_
  cases h
  exact Ak_iret rfl (d_Str_indexOf_I 4 6 (.ireturn) 1 rfl)
theorem t_Tokens_cutOne_J47 {S : ASh} {V : ASt} {x0 : Int} {r : Int} {V' : ASt} (hO : isO S x0 9 = true) (h : b_Tokens_cutOne_J47 S  V x0 = some (r, V')) : AWk m_Tokens_cutOne 6 0 0 0 0 47 [some (aR x0)] [] S V (some (aI r)) S V' := by
  unfold b_Tokens_cutOne_J47 at h
  refine Ak_aload_n 48 0 (d_Tokens_cutOne 25 47 (.aload_n 0) 1 rfl) rfl rfl rfl ?_
  refine Ak_iconst 49 (d_Tokens_cutOne 26 48 (.iconst 1) 1 rfl) rfl (rk rfl) ?_
  refine Ak_aload_n 50 0 (d_Tokens_cutOne 27 49 (.aload_n 0) 1 rfl) rfl rfl rfl ?_
  refine Ak_getI 53 5 hO clX9 (by decide) (Or.inl rfl) lkF_Tokens_28 (d_Tokens_cutOne 28 50 (.getfield 28) 3 rfl) rfl ?_
  refine Ak_iconst 54 (d_Tokens_cutOne 29 53 (.iconst 0) 1 rfl) rfl (rk rfl) ?_
  obtain ⟨r1, V2, h3, h⟩ := bnd_some h
  refine Ak_cV1 57 2 (c_Tokens_add h3) rfl hO clX9 rfl mok_Tokens_add lkM_Tokens_63 (d_Tokens_cutOne 30 54 (.invokevirtual 63) 3 rfl) rfl (by decide) (Nat.le_of_ble_eq_true rfl) ?_
  cases h
  exact Ak_iret rfl (d_Tokens_cutOne 31 57 (.ireturn) 1 rfl)
theorem t_Tokens_cutOne_J108 {S : ASh} {V : ASt} {x0 s0 s1 : Int} {r : Int} {V' : ASt} (hO : isO S x0 9 = true) (h : b_Tokens_cutOne_J108 S  V x0 s0 s1 = some (r, V')) : AWk m_Tokens_cutOne 6 0 0 0 0 108 [some (aR x0)] [(aI s1), (aR s0)] S V (some (aI r)) S V' := by
  unfold b_Tokens_cutOne_J108 at h
  refine Ak_aload_n 109 0 (d_Tokens_cutOne 60 108 (.aload_n 0) 1 rfl) rfl rfl rfl ?_
  refine Ak_getI 112 5 hO clX9 (by decide) (Or.inl rfl) lkF_Tokens_28 (d_Tokens_cutOne 61 109 (.getfield 28) 3 rfl) rfl ?_
  refine Ak_iconst 113 (d_Tokens_cutOne 62 112 (.iconst 1) 1 rfl) rfl (rk rfl) ?_
  refine Ak_isub 114 (d_Tokens_cutOne 63 113 (.isub) 1 rfl) rfl ?_
  refine Ak_iconst 115 (d_Tokens_cutOne 64 114 (.iconst 0) 1 rfl) rfl (rk rfl) ?_
  obtain ⟨hg7, h⟩ := gd_some h
  obtain ⟨r4, V5, h6, h⟩ := bnd_some h
  refine Ak_cV1 118 2 (c_Tokens_add h6) rfl hg7 clX9 rfl mok_Tokens_add lkM_Tokens_63 (d_Tokens_cutOne 65 115 (.invokevirtual 63) 3 rfl) rfl (by decide) (Nat.le_of_ble_eq_true rfl) ?_
  cases h
  exact Ak_iret rfl (d_Tokens_cutOne 66 118 (.ireturn) 1 rfl)
theorem t_Tokens_cutOne_J58 {S : ASh} {V : ASt} {x0 x1 x3 x4 : Int} {r : Int} {V' : ASt} (hO : isO S x0 9 = true) (h : b_Tokens_cutOne_J58 S  V x0 x1 x3 x4 = some (r, V')) : AWk m_Tokens_cutOne 6 0 0 0 0 58 [some (aR x0), some (aR x1), none, some (aI x3), some (aI x4)] [] S V (some (aI r)) S V' := by
  unfold b_Tokens_cutOne_J58 at h
  refine Ak_iload 60 (d_Tokens_cutOne 32 58 (.iload 4) 2 rfl) rfl rfl ?_
  refine Ak_if_eq 69 63 (d_Tokens_cutOne 33 60 (.ifCond .eq 9) 3 rfl) rfl rfl (fun hc => ?_) (fun hc => ?_)
  · replace h := it_t hc h
    refine Ak_iload_n 70 3 (d_Tokens_cutOne 38 69 (.iload_n 3) 1 rfl) rfl rfl rfl ?_
    obtain ⟨r8, V9, h10, h⟩ := bnd_some h
    refine Ak_cS1 73 2 (c_Tokens_isDigit h10) rfl mok_Tokens_isDigit lkM_Tokens_69 (d_Tokens_cutOne 39 70 (.invokestatic 69) 3 rfl) rfl (by decide) (Nat.le_of_ble_eq_true rfl) ?_
    refine Ak_if_eq 82 76 (d_Tokens_cutOne 40 73 (.ifCond .eq 9) 3 rfl) rfl rfl (fun hc => ?_) (fun hc => ?_)
    · replace h := it_t hc h
      refine Ak_aload_n 83 0 (d_Tokens_cutOne 45 82 (.aload_n 0) 1 rfl) rfl rfl rfl ?_
      refine Ak_dup 84 (d_Tokens_cutOne 46 83 (.dup) 1 rfl) rfl rfl ?_
      refine Ak_getI 87 5 hO clX9 (by decide) (Or.inl rfl) lkF_Tokens_28 (d_Tokens_cutOne 47 84 (.getfield 28) 3 rfl) rfl ?_
      refine Ak_iconst 88 (d_Tokens_cutOne 48 87 (.iconst 1) 1 rfl) rfl (rk rfl) ?_
      refine Ak_iadd 89 (d_Tokens_cutOne 49 88 (.iadd) 1 rfl) rfl ?_
      refine Ak_putI 92 5 hO clX9 (by decide) rfl rfl rfl lkF_Tokens_28 (d_Tokens_cutOne 50 89 (.putfield 28) 3 rfl) rfl (fun V11 hV11 => ?_)
      replace h := wV_some h V11 hV11
      refine Ak_aload_n 93 0 (d_Tokens_cutOne 51 92 (.aload_n 0) 1 rfl) rfl rfl rfl ?_
      refine Ak_ldcS1 95 (d_Tokens_cutOne 52 93 (.ldc 79) 2 rfl) rfl ?_
      refine Ak_iload_n 96 3 (d_Tokens_cutOne 53 95 (.iload_n 3) 1 rfl) rfl rfl rfl ?_
      refine Ak_i2c 97 (d_Tokens_cutOne 54 96 (.i2c) 1 rfl) rfl ?_
      obtain ⟨hs15, h⟩ := gd_some h
      obtain ⟨r12, V13, h14, h⟩ := bnd_some h
      refine Ak_cT 100 5 (c_Str_indexOf_I h14) rfl hs15 rfl mok_Str_indexOf_I lkM_Tokens_81 (d_Tokens_cutOne 55 97 (.invokevirtual 81) 3 rfl) rfl (by decide) (by decide) (Nat.le_of_ble_eq_true rfl) ?_
      refine Ak_if_lt 107 103 (d_Tokens_cutOne 56 100 (.ifCond .lt 7) 3 rfl) rfl rfl (fun hc => ?_) (fun hc => ?_)
      · replace h := it_t hc h
        refine Ak_iconst 108 (d_Tokens_cutOne 59 107 (.iconst 1) 1 rfl) rfl (rk rfl) ?_
        refine Ak_keep [true] ?_
        exact t_Tokens_cutOne_J108 hO h
      · replace h := it_f hc h
        refine Ak_iload_n 104 3 (d_Tokens_cutOne 57 103 (.iload_n 3) 1 rfl) rfl rfl rfl ?_
        refine Ak_goto 108 (d_Tokens_cutOne 58 104 (.goto 4) 3 rfl) rfl ?_
        refine Ak_keep [true] ?_
        exact t_Tokens_cutOne_J108 hO h
    · replace h := it_f hc h
      refine Ak_aload_n 77 0 (d_Tokens_cutOne 41 76 (.aload_n 0) 1 rfl) rfl rfl rfl ?_
      refine Ak_aload_n 78 1 (d_Tokens_cutOne 42 77 (.aload_n 1) 1 rfl) rfl rfl rfl ?_
      obtain ⟨r16, V17, h18, h⟩ := bnd_some h
      refine Ak_cV1 81 3 (c_Tokens_cutNumber h18) rfl hO clX9 rfl mok_Tokens_cutNumber lkM_Tokens_76 (d_Tokens_cutOne 43 78 (.invokevirtual 76) 3 rfl) rfl (by decide) (Nat.le_of_ble_eq_true rfl) ?_
      cases h
      exact Ak_iret rfl (d_Tokens_cutOne 44 81 (.ireturn) 1 rfl)
  · replace h := it_f hc h
    refine Ak_aload_n 64 0 (d_Tokens_cutOne 34 63 (.aload_n 0) 1 rfl) rfl rfl rfl ?_
    refine Ak_aload_n 65 1 (d_Tokens_cutOne 35 64 (.aload_n 1) 1 rfl) rfl rfl rfl ?_
    obtain ⟨r19, V20, h21, h⟩ := bnd_some h
    refine Ak_cV1 68 3 (c_Tokens_cutWord h21) rfl hO clX9 rfl mok_Tokens_cutWord lkM_Tokens_72 (d_Tokens_cutOne 36 65 (.invokevirtual 72) 3 rfl) rfl (by decide) (Nat.le_of_ble_eq_true rfl) ?_
    cases h
    exact Ak_iret rfl (d_Tokens_cutOne 37 68 (.ireturn) 1 rfl)
theorem c_Tokens_cutOne {S : ASh} {V : ASt} {x0 x1 x2 : Int} {r : Int} {V' : ASt} (h : f_Tokens_cutOne S V x0 x1 x2 = some (r, V')) : ACt m_Tokens_cutOne 6 0 0 [(aR x0), (aR x1), (aI x2)] S V (some (aI r)) S V' := by
  unfold f_Tokens_cutOne at h
  obtain ⟨hO, h⟩ := gd_some h
  refine ACt_of (plainFor_of_name rfl) rfl (Nat.le_of_ble_eq_true rfl) ?_
  show AWk m_Tokens_cutOne 6 0 0 0 0 0 [some (aR x0), some (aR x1), some (aI x2)] [] S V (some (aI r)) S V'
  refine Ak_aload_n 1 1 (d_Tokens_cutOne 0 0 (.aload_n 1) 1 rfl) rfl rfl rfl ?_
  refine Ak_aload_n 2 0 (d_Tokens_cutOne 1 1 (.aload_n 0) 1 rfl) rfl rfl rfl ?_
  refine Ak_getI 5 5 hO clX9 (by decide) (Or.inl rfl) lkF_Tokens_28 (d_Tokens_cutOne 2 2 (.getfield 28) 3 rfl) rfl ?_
  obtain ⟨hg25, h⟩ := gd_some h
  obtain ⟨r22, V23, h24, h⟩ := bnd_some h
  refine Ak_cV1 8 2 (c_Bytes_at h24) rfl hg25 clX0 rfl mok_Bytes_at lkM_Tokens_51 (d_Tokens_cutOne 3 5 (.invokevirtual 51) 3 rfl) rfl (by decide) (Nat.le_of_ble_eq_true rfl) ?_
  refine Ak_istore_n 9 3 (d_Tokens_cutOne 4 8 (.istore_n 3) 1 rfl) rfl rfl (by decide) ?_
  refine Ak_iload_n 10 3 (d_Tokens_cutOne 5 9 (.iload_n 3) 1 rfl) rfl rfl rfl ?_
  refine Ak_iconst 11 (d_Tokens_cutOne 6 10 (.iconst (-1)) 1 rfl) rfl (rk rfl) ?_
  refine Ak_icmp_ne 25 14 (d_Tokens_cutOne 7 11 (.if_icmp .ne 14) 3 rfl) rfl rfl (fun hc => ?_) (fun hc => ?_)
  · replace h := it_f hc h
    refine Ak_iload_n 26 3 (d_Tokens_cutOne 15 25 (.iload_n 3) 1 rfl) rfl rfl rfl ?_
    obtain ⟨r26, V27, h28, h⟩ := bnd_some h
    refine Ak_cS1 29 2 (c_Tokens_isLetter h28) rfl mok_Tokens_isLetter lkM_Tokens_66 (d_Tokens_cutOne 16 26 (.invokestatic 66) 3 rfl) rfl (by decide) (Nat.le_of_ble_eq_true rfl) ?_
    refine Ak_istore 31 (d_Tokens_cutOne 17 29 (.istore 4) 2 rfl) rfl (by decide) ?_
    refine Ak_iload_n 32 2 (d_Tokens_cutOne 18 31 (.iload_n 2) 1 rfl) rfl rfl rfl ?_
    refine Ak_if_eq 58 35 (d_Tokens_cutOne 19 32 (.ifCond .eq 26) 3 rfl) rfl rfl (fun hc => ?_) (fun hc => ?_)
    · replace h := it_t hc h
      refine Ak_keep [true, true, false, true, true] ?_
      exact t_Tokens_cutOne_J58 hO h
    · replace h := it_f hc h
      refine Ak_iload 37 (d_Tokens_cutOne 20 35 (.iload 4) 2 rfl) rfl rfl ?_
      refine Ak_if_ne 47 40 (d_Tokens_cutOne 21 37 (.ifCond .ne 10) 3 rfl) rfl rfl (fun hc => ?_) (fun hc => ?_)
      · replace h := it_f hc h
        refine Ak_keep [true] ?_
        exact t_Tokens_cutOne_J47 hO h
      · replace h := it_t hc h
        refine Ak_iload_n 41 3 (d_Tokens_cutOne 22 40 (.iload_n 3) 1 rfl) rfl rfl rfl ?_
        obtain ⟨r29, V30, h31, h⟩ := bnd_some h
        refine Ak_cS1 44 2 (c_Tokens_isDigit h31) rfl mok_Tokens_isDigit lkM_Tokens_69 (d_Tokens_cutOne 23 41 (.invokestatic 69) 3 rfl) rfl (by decide) (Nat.le_of_ble_eq_true rfl) ?_
        refine Ak_if_eq 58 47 (d_Tokens_cutOne 24 44 (.ifCond .eq 14) 3 rfl) rfl rfl (fun hc => ?_) (fun hc => ?_)
        · replace h := it_t hc h
          refine Ak_keep [true, true, false, true, true] ?_
          exact t_Tokens_cutOne_J58 hO h
        · replace h := it_f hc h
          refine Ak_keep [true] ?_
          exact t_Tokens_cutOne_J47 hO h
  · replace h := it_t hc h
    refine Ak_aload_n 15 0 (d_Tokens_cutOne 8 14 (.aload_n 0) 1 rfl) rfl rfl rfl ?_
    refine Ak_iconst 16 (d_Tokens_cutOne 9 15 (.iconst 0) 1 rfl) rfl (rk rfl) ?_
    refine Ak_aload_n 17 0 (d_Tokens_cutOne 10 16 (.aload_n 0) 1 rfl) rfl rfl rfl ?_
    refine Ak_getI 20 5 hO clX9 (by decide) (Or.inl rfl) lkF_Tokens_28 (d_Tokens_cutOne 11 17 (.getfield 28) 3 rfl) rfl ?_
    refine Ak_iconst 21 (d_Tokens_cutOne 12 20 (.iconst 0) 1 rfl) rfl (rk rfl) ?_
    obtain ⟨r32, V33, h34, h⟩ := bnd_some h
    refine Ak_cV1 24 2 (c_Tokens_add h34) rfl hO clX9 rfl mok_Tokens_add lkM_Tokens_63 (d_Tokens_cutOne 13 21 (.invokevirtual 63) 3 rfl) rfl (by decide) (Nat.le_of_ble_eq_true rfl) ?_
    cases h
    exact Ak_iret rfl (d_Tokens_cutOne 14 24 (.ireturn) 1 rfl)
theorem t_Tokens_cut_J119 {S : ASh} {K14 : ASt → Int → Int → Option (Int × ASt)} {V : ASt} {x0 x1 x3 s0 s1 s2 : Int} {r : Int} {V' : ASt} (hO : isO S x0 9 = true) (hK14 : ∀ {V : ASt} {y2 y3 : Int} {r : Int} {V' : ASt}, K14 V y2 y3 = some (r, V') → AWk m_Tokens_cut 7 0 0 0 0 14 [some (aR x0), some (aR x1), some (aI y2), some (aI y3)] [] S V none S V') (h : b_Tokens_cut_J119 S K14 V x0 x1 x3 s0 s1 s2 = some (r, V')) : AWk m_Tokens_cut 7 0 0 0 0 119 [some (aR x0), some (aR x1), none, some (aI x3)] [(aI s2), (aR s1), (aR s0)] S V none S V' := by
  unfold b_Tokens_cut_J119 at h
  obtain ⟨hg4, h⟩ := gd_some h
  obtain ⟨r1, V2, h3, h⟩ := bnd_some h
  refine Ak_cV1 122 6 (c_Tokens_cutOne h3) rfl hg4 clX9 rfl mok_Tokens_cutOne lkM_Tokens_59 (d_Tokens_cut 63 119 (.invokevirtual 59) 3 rfl) rfl (by decide) (Nat.le_of_ble_eq_true rfl) ?_
  refine Ak_istore_n 123 2 (d_Tokens_cut 64 122 (.istore_n 2) 1 rfl) rfl rfl (by decide) ?_
  refine Ak_iinc 126 (d_Tokens_cut 65 123 (.iinc 3 1) 3 rfl) rfl rfl (by decide) ?_
  refine Ak_goto 14 (d_Tokens_cut 66 126 (.goto (-112)) 3 rfl) rfl ?_
  refine Ak_keep [true, true, true, true] ?_
  exact hK14 h
theorem t_Tokens_cut_J98 {S : ASh} {K14 : ASt → Int → Int → Option (Int × ASt)} {V : ASt} {x0 x1 x3 x4 x5 : Int} {r : Int} {V' : ASt} (hO : isO S x0 9 = true) (hK14 : ∀ {V : ASt} {y2 y3 : Int} {r : Int} {V' : ASt}, K14 V y2 y3 = some (r, V') → AWk m_Tokens_cut 7 0 0 0 0 14 [some (aR x0), some (aR x1), some (aI y2), some (aI y3)] [] S V none S V') (h : b_Tokens_cut_J98 S K14 V x0 x1 x3 x4 x5 = some (r, V')) : AWk m_Tokens_cut 7 0 0 0 0 98 [some (aR x0), some (aR x1), none, some (aI x3), some (aI x4), some (aI x5)] [] S V none S V' := by
  unfold b_Tokens_cut_J98 at h
  refine Ak_aload_n 99 0 (d_Tokens_cut 52 98 (.aload_n 0) 1 rfl) rfl rfl rfl ?_
  refine Ak_aload_n 100 1 (d_Tokens_cut 53 99 (.aload_n 1) 1 rfl) rfl rfl rfl ?_
  refine Ak_iload 102 (d_Tokens_cut 54 100 (.iload 5) 2 rfl) rfl rfl ?_
  refine Ak_if_eq 118 105 (d_Tokens_cut 55 102 (.ifCond .eq 16) 3 rfl) rfl rfl (fun hc => ?_) (fun hc => ?_)
  · replace h := it_t hc h
    refine Ak_iconst 119 (d_Tokens_cut 62 118 (.iconst 0) 1 rfl) rfl (rk rfl) ?_
    refine Ak_keep [true, true, false, true] ?_
    exact t_Tokens_cut_J119 hO (fun h => hK14 h) h
  · replace h := it_f hc h
    refine Ak_aload_n 106 0 (d_Tokens_cut 56 105 (.aload_n 0) 1 rfl) rfl rfl rfl ?_
    refine Ak_getI 109 5 hO clX9 (by decide) (Or.inl rfl) lkF_Tokens_28 (d_Tokens_cut 57 106 (.getfield 28) 3 rfl) rfl ?_
    refine Ak_iload 111 (d_Tokens_cut 58 109 (.iload 4) 2 rfl) rfl rfl ?_
    refine Ak_icmp_ne 118 114 (d_Tokens_cut 59 111 (.if_icmp .ne 7) 3 rfl) rfl rfl (fun hc => ?_) (fun hc => ?_)
    · replace h := it_f hc h
      refine Ak_iconst 119 (d_Tokens_cut 62 118 (.iconst 0) 1 rfl) rfl (rk rfl) ?_
      refine Ak_keep [true, true, false, true] ?_
      exact t_Tokens_cut_J119 hO (fun h => hK14 h) h
    · replace h := it_t hc h
      refine Ak_iconst 115 (d_Tokens_cut 60 114 (.iconst 1) 1 rfl) rfl (rk rfl) ?_
      refine Ak_goto 119 (d_Tokens_cut 61 115 (.goto 4) 3 rfl) rfl ?_
      refine Ak_keep [true, true, false, true] ?_
      exact t_Tokens_cut_J119 hO (fun h => hK14 h) h
theorem t_Tokens_cut_L60 {S : ASh} {K14 : ASt → Int → Int → Option (Int × ASt)} {x0 x1 x3 x4 x5 : Int} (hO : isO S x0 9 = true) (hK14 : ∀ {V : ASt} {y2 y3 : Int} {r : Int} {V' : ASt}, K14 V y2 y3 = some (r, V') → AWk m_Tokens_cut 7 0 0 0 0 14 [some (aR x0), some (aR x1), some (aI y2), some (aI y3)] [] S V none S V') : ∀ (n : Nat) (V : ASt) (r : Int) (V' : ASt), b_Tokens_cut_L60 S K14 x0 x1 x3 x4 x5 n V  = some (r, V') → AWk m_Tokens_cut 7 0 0 0 0 60 [some (aR x0), some (aR x1), none, some (aI x3), some (aI x4), some (aI x5)] [] S V none S V' := by
  intro n
  induction n with
  | zero => intro V  r V' h; cases h
  | succ n ih =>
    intro V  r V' h
    replace ih : ∀ {V : ASt} {r : Int} {V' : ASt}, b_Tokens_cut_L60 S K14 x0 x1 x3 x4 x5 n V  = some (r, V') → AWk m_Tokens_cut 7 0 0 0 0 60 [some (aR x0), some (aR x1), none, some (aI x3), some (aI x4), some (aI x5)] [] S V none S V' := fun h => ih _  _ _ h
    rw [b_Tokens_cut_L60] at h
    refine Ak_aload_n 61 0 (d_Tokens_cut 34 60 (.aload_n 0) 1 rfl) rfl rfl rfl ?_
    refine Ak_getI 64 5 hO clX9 (by decide) (Or.inl rfl) lkF_Tokens_28 (d_Tokens_cut 35 61 (.getfield 28) 3 rfl) rfl ?_
    refine Ak_aload_n 65 1 (d_Tokens_cut 36 64 (.aload_n 1) 1 rfl) rfl rfl rfl ?_
    obtain ⟨hg5, h⟩ := gd_some h
    refine Ak_getI 68 0 hg5 clX0 (by decide) (Or.inl rfl) lkF_Tokens_47 (d_Tokens_cut 37 65 (.getfield 47) 3 rfl) rfl ?_
    refine Ak_icmp_ge 98 71 (d_Tokens_cut 38 68 (.if_icmp .ge 30) 3 rfl) rfl rfl (fun hc => ?_) (fun hc => ?_)
    · replace h := it_t hc h
      refine Ak_keep [true, true, false, true, true, true] ?_
      exact t_Tokens_cut_J98 hO (fun h => hK14 h) h
    · replace h := it_f hc h
      refine Ak_aload_n 72 1 (d_Tokens_cut 39 71 (.aload_n 1) 1 rfl) rfl rfl rfl ?_
      refine Ak_aload_n 73 0 (d_Tokens_cut 40 72 (.aload_n 0) 1 rfl) rfl rfl rfl ?_
      refine Ak_getI 76 5 hO clX9 (by decide) (Or.inl rfl) lkF_Tokens_28 (d_Tokens_cut 41 73 (.getfield 28) 3 rfl) rfl ?_
      obtain ⟨r6, V7, h8, h⟩ := bnd_some h
      refine Ak_cV1 79 2 (c_Bytes_at h8) rfl hg5 clX0 rfl mok_Bytes_at lkM_Tokens_51 (d_Tokens_cut 42 76 (.invokevirtual 51) 3 rfl) rfl (by decide) (Nat.le_of_ble_eq_true rfl) ?_
      obtain ⟨r9, V10, h11, h⟩ := bnd_some h
      refine Ak_cS1 82 2 (c_Tokens_isBlank h11) rfl mok_Tokens_isBlank lkM_Tokens_55 (d_Tokens_cut 43 79 (.invokestatic 55) 3 rfl) rfl (by decide) (Nat.le_of_ble_eq_true rfl) ?_
      refine Ak_if_eq 98 85 (d_Tokens_cut 44 82 (.ifCond .eq 16) 3 rfl) rfl rfl (fun hc => ?_) (fun hc => ?_)
      · replace h := it_t hc h
        refine Ak_keep [true, true, false, true, true, true] ?_
        exact t_Tokens_cut_J98 hO (fun h => hK14 h) h
      · replace h := it_f hc h
        refine Ak_aload_n 86 0 (d_Tokens_cut 45 85 (.aload_n 0) 1 rfl) rfl rfl rfl ?_
        refine Ak_dup 87 (d_Tokens_cut 46 86 (.dup) 1 rfl) rfl rfl ?_
        refine Ak_getI 90 5 hO clX9 (by decide) (Or.inl rfl) lkF_Tokens_28 (d_Tokens_cut 47 87 (.getfield 28) 3 rfl) rfl ?_
        refine Ak_iconst 91 (d_Tokens_cut 48 90 (.iconst 1) 1 rfl) rfl (rk rfl) ?_
        refine Ak_iadd 92 (d_Tokens_cut 49 91 (.iadd) 1 rfl) rfl ?_
        refine Ak_putI 95 5 hO clX9 (by decide) rfl rfl rfl lkF_Tokens_28 (d_Tokens_cut 50 92 (.putfield 28) 3 rfl) rfl (fun V12 hV12 => ?_)
        replace h := wV_some h V12 hV12
        refine Ak_goto 60 (d_Tokens_cut 51 95 (.goto (-35)) 3 rfl) rfl ?_
        refine Ak_keep [true, true, false, true, true, true] ?_
        exact ih h
theorem t_Tokens_cut_L14 {S : ASh} {x0 x1 : Int} (hO : isO S x0 9 = true) : ∀ (n : Nat) (V : ASt) (x2 x3 : Int) (r : Int) (V' : ASt), b_Tokens_cut_L14 S x0 x1 n V x2 x3 = some (r, V') → AWk m_Tokens_cut 7 0 0 0 0 14 [some (aR x0), some (aR x1), some (aI x2), some (aI x3)] [] S V none S V' := by
  intro n
  induction n with
  | zero => intro V x2 x3 r V' h; cases h
  | succ n ih =>
    intro V x2 x3 r V' h
    replace ih : ∀ {V : ASt} {x2 x3 : Int} {r : Int} {V' : ASt}, b_Tokens_cut_L14 S x0 x1 n V x2 x3 = some (r, V') → AWk m_Tokens_cut 7 0 0 0 0 14 [some (aR x0), some (aR x1), some (aI x2), some (aI x3)] [] S V none S V' := fun h => ih _ _ _ _ _ h
    rw [b_Tokens_cut_L14] at h
    refine Ak_iload_n 15 3 (d_Tokens_cut 10 14 (.iload_n 3) 1 rfl) rfl rfl rfl ?_
    refine Ak_sipush 18 (d_Tokens_cut 11 15 (.sipush 1801) 3 rfl) rfl (sp_ok rfl) (rk rfl) ?_
    refine Ak_icmp_ge 129 21 (d_Tokens_cut 12 18 (.if_icmp .ge 111) 3 rfl) rfl rfl (fun hc => ?_) (fun hc => ?_)
    · replace h := it_t hc h
      cases h
      exact Ak_vret rfl (d_Tokens_cut 67 129 (.return_) 1 rfl)
    · replace h := it_f hc h
      refine Ak_iload_n 22 2 (d_Tokens_cut 13 21 (.iload_n 2) 1 rfl) rfl rfl rfl ?_
      refine Ak_if_eq 129 25 (d_Tokens_cut 14 22 (.ifCond .eq 107) 3 rfl) rfl rfl (fun hc => ?_) (fun hc => ?_)
      · replace h := it_t hc h
        cases h
        exact Ak_vret rfl (d_Tokens_cut 67 129 (.return_) 1 rfl)
      · replace h := it_f hc h
        refine Ak_iload_n 26 2 (d_Tokens_cut 15 25 (.iload_n 2) 1 rfl) rfl rfl rfl ?_
        refine Ak_iconst 27 (d_Tokens_cut 16 26 (.iconst 1) 1 rfl) rfl (rk rfl) ?_
        refine Ak_icmp_eq 129 30 (d_Tokens_cut 17 27 (.if_icmp .eq 102) 3 rfl) rfl rfl (fun hc => ?_) (fun hc => ?_)
        · replace h := it_t hc h
          cases h
          exact Ak_vret rfl (d_Tokens_cut 67 129 (.return_) 1 rfl)
        · replace h := it_f hc h
          refine Ak_aload_n 31 0 (d_Tokens_cut 18 30 (.aload_n 0) 1 rfl) rfl rfl rfl ?_
          refine Ak_getI 34 5 hO clX9 (by decide) (Or.inl rfl) lkF_Tokens_28 (d_Tokens_cut 19 31 (.getfield 28) 3 rfl) rfl ?_
          refine Ak_istore 36 (d_Tokens_cut 20 34 (.istore 4) 2 rfl) rfl (by decide) ?_
          refine Ak_iload_n 37 2 (d_Tokens_cut 21 36 (.iload_n 2) 1 rfl) rfl rfl rfl ?_
          refine Ak_iconst 38 (d_Tokens_cut 22 37 (.iconst 3) 1 rfl) rfl (rk rfl) ?_
          refine Ak_icmp_eq 53 41 (d_Tokens_cut 23 38 (.if_icmp .eq 15) 3 rfl) rfl rfl (fun hc => ?_) (fun hc => ?_)
          · replace h := it_t hc h
            refine Ak_iconst 54 (d_Tokens_cut 30 53 (.iconst 1) 1 rfl) rfl (rk rfl) ?_
            refine Ak_goto 58 (d_Tokens_cut 31 54 (.goto 4) 3 rfl) rfl ?_
            refine Ak_istore 60 (d_Tokens_cut 33 58 (.istore 5) 2 rfl) rfl (by decide) ?_
            refine Ak_keep [true, true, false, true, true, true] ?_
            exact t_Tokens_cut_L60 hO (fun h => ih h) FU _ _ _ h
          · replace h := it_f hc h
            refine Ak_iload_n 42 2 (d_Tokens_cut 24 41 (.iload_n 2) 1 rfl) rfl rfl rfl ?_
            refine Ak_iconst 43 (d_Tokens_cut 25 42 (.iconst 2) 1 rfl) rfl (rk rfl) ?_
            refine Ak_icmp_eq 53 46 (d_Tokens_cut 26 43 (.if_icmp .eq 10) 3 rfl) rfl rfl (fun hc => ?_) (fun hc => ?_)
            · replace h := it_t hc h
              refine Ak_iconst 54 (d_Tokens_cut 30 53 (.iconst 1) 1 rfl) rfl (rk rfl) ?_
              refine Ak_goto 58 (d_Tokens_cut 31 54 (.goto 4) 3 rfl) rfl ?_
              refine Ak_istore 60 (d_Tokens_cut 33 58 (.istore 5) 2 rfl) rfl (by decide) ?_
              refine Ak_keep [true, true, false, true, true, true] ?_
              exact t_Tokens_cut_L60 hO (fun h => ih h) FU _ _ _ h
            · replace h := it_f hc h
              refine Ak_iload_n 47 2 (d_Tokens_cut 27 46 (.iload_n 2) 1 rfl) rfl rfl rfl ?_
              refine Ak_sipush 50 (d_Tokens_cut 28 47 (.sipush 256) 3 rfl) rfl (sp_ok rfl) (rk rfl) ?_
              refine Ak_icmp_lt 57 53 (d_Tokens_cut 29 50 (.if_icmp .lt 7) 3 rfl) rfl rfl (fun hc => ?_) (fun hc => ?_)
              · replace h := it_t hc h
                refine Ak_iconst 58 (d_Tokens_cut 32 57 (.iconst 0) 1 rfl) rfl (rk rfl) ?_
                refine Ak_istore 60 (d_Tokens_cut 33 58 (.istore 5) 2 rfl) rfl (by decide) ?_
                refine Ak_keep [true, true, false, true, true, true] ?_
                exact t_Tokens_cut_L60 hO (fun h => ih h) FU _ _ _ h
              · replace h := it_f hc h
                refine Ak_iconst 54 (d_Tokens_cut 30 53 (.iconst 1) 1 rfl) rfl (rk rfl) ?_
                refine Ak_goto 58 (d_Tokens_cut 31 54 (.goto 4) 3 rfl) rfl ?_
                refine Ak_istore 60 (d_Tokens_cut 33 58 (.istore 5) 2 rfl) rfl (by decide) ?_
                refine Ak_keep [true, true, false, true, true, true] ?_
                exact t_Tokens_cut_L60 hO (fun h => ih h) FU _ _ _ h
theorem c_Tokens_cut {S : ASh} {V : ASt} {x0 x1 : Int} {r : Int} {V' : ASt} (h : f_Tokens_cut S V x0 x1 = some (r, V')) : ACt m_Tokens_cut 7 0 0 [(aR x0), (aR x1)] S V none S V' := by
  unfold f_Tokens_cut at h
  obtain ⟨hO, h⟩ := gd_some h
  refine ACt_of (plainFor_of_name rfl) rfl (Nat.le_of_ble_eq_true rfl) ?_
  show AWk m_Tokens_cut 7 0 0 0 0 0 [some (aR x0), some (aR x1)] [] S V none S V'
  refine Ak_aload_n 1 0 (d_Tokens_cut 0 0 (.aload_n 0) 1 rfl) rfl rfl rfl ?_
  refine Ak_iconst 2 (d_Tokens_cut 1 1 (.iconst 0) 1 rfl) rfl (rk rfl) ?_
  refine Ak_putI 5 4 hO clX9 (by decide) rfl rfl rfl lkF_Tokens_24 (d_Tokens_cut 2 2 (.putfield 24) 3 rfl) rfl (fun V13 hV13 => ?_)
  replace h := wV_some h V13 hV13
  refine Ak_aload_n 6 0 (d_Tokens_cut 3 5 (.aload_n 0) 1 rfl) rfl rfl rfl ?_
  refine Ak_iconst 7 (d_Tokens_cut 4 6 (.iconst 0) 1 rfl) rfl (rk rfl) ?_
  refine Ak_putI 10 5 hO clX9 (by decide) rfl rfl rfl lkF_Tokens_28 (d_Tokens_cut 5 7 (.putfield 28) 3 rfl) rfl (fun V14 hV14 => ?_)
  replace h := wV_some h V14 hV14
  refine Ak_iconst 11 (d_Tokens_cut 6 10 (.iconst (-1)) 1 rfl) rfl (rk rfl) ?_
  refine Ak_istore_n 12 2 (d_Tokens_cut 7 11 (.istore_n 2) 1 rfl) rfl rfl (by decide) ?_
  refine Ak_iconst 13 (d_Tokens_cut 8 12 (.iconst 0) 1 rfl) rfl (rk rfl) ?_
  refine Ak_istore_n 14 3 (d_Tokens_cut 9 13 (.istore_n 3) 1 rfl) rfl rfl (by decide) ?_
  refine Ak_keep [true, true, true, true] ?_
  exact t_Tokens_cut_L14 hO FU _ _ _ _ _ h
theorem c_Pre_checkIndex {S : ASh} {V : ASt} {x0 x1 x2 : Int} {r : Int} {V' : ASt} (h : f_Pre_checkIndex S V x0 x1 x2 = some (r, V')) : ACt m_Pre_checkIndex 2 0 0 [(aI x0), (aI x1), (aR x2)] S V (some (aI r)) S V' := by
  unfold f_Pre_checkIndex at h
  refine ACt_of (by decide +kernel) rfl (Nat.le_of_ble_eq_true rfl) ?_
  show AWk m_Pre_checkIndex 2 0 0 0 0 0 [some (aI x0), some (aI x1), some (aR x2)] [] S V (some (aI r)) S V'
  refine Ak_iload_n 1 0 (d_Pre_checkIndex 0 0 (.iload_n 0) 1 rfl) rfl rfl rfl ?_
  refine Ak_if_lt 9 4 (d_Pre_checkIndex 1 1 (.ifCond .lt 8) 3 rfl) rfl rfl (fun hc => ?_) (fun hc => ?_)
  · replace h := it_t hc h
    cases h
  · replace h := it_f hc h
    refine Ak_iload_n 5 0 (d_Pre_checkIndex 2 4 (.iload_n 0) 1 rfl) rfl rfl rfl ?_
    refine Ak_iload_n 6 1 (d_Pre_checkIndex 3 5 (.iload_n 1) 1 rfl) rfl rfl rfl ?_
    refine Ak_icmp_lt 16 9 (d_Pre_checkIndex 4 6 (.if_icmp .lt 10) 3 rfl) rfl rfl (fun hc => ?_) (fun hc => ?_)
    · replace h := it_t hc h
      refine Ak_iload_n 17 0 (d_Pre_checkIndex 6 16 (.iload_n 0) 1 rfl) rfl rfl rfl ?_
      cases h
      exact Ak_iret rfl (d_Pre_checkIndex 7 17 (.ireturn) 1 rfl)
    · replace h := it_f hc h
      cases h
theorem c_Str_checkIndex {S : ASh} {V : ASt} {x0 x1 : Int} {r : Int} {V' : ASt} (h : f_Str_checkIndex S V x0 x1 = some (r, V')) : ACt m_Str_checkIndex 3 0 0 [(aI x0), (aI x1)] S V none S V' := by
  unfold f_Str_checkIndex at h
  refine ACt_of (by decide +kernel) rfl (Nat.le_of_ble_eq_true rfl) ?_
  show AWk m_Str_checkIndex 3 0 0 0 0 0 [some (aI x0), some (aI x1)] [] S V none S V'
  refine Ak_iload_n 1 0 (d_Str_checkIndex 0 0 (.iload_n 0) 1 rfl) rfl rfl rfl ?_
  refine Ak_iload_n 2 1 (d_Str_checkIndex 1 1 (.iload_n 1) 1 rfl) rfl rfl rfl ?_
  refine Ak_getsF 5 lkF_Str_1053 (d_Str_checkIndex 2 2 (.getstatic 1053) 3 rfl) rfl (fun yF => ?_)
  obtain ⟨r1, V2, h3, h⟩ := bnd_some h
  refine Ak_cS1 8 2 (c_Pre_checkIndex (x2 := yF) h3) rfl mok_Pre_checkIndex lkM_Str_1059 (d_Str_checkIndex 3 5 (.invokestatic 1059) 3 rfl) rfl (by decide) (Nat.le_of_ble_eq_true rfl) ?_
  refine Ak_pop 9 (d_Str_checkIndex 4 8 (.pop) 1 rfl) rfl rfl ?_
  cases h
  exact Ak_vret rfl (d_Str_checkIndex 5 9 (.return_) 1 rfl)
theorem c_Lat_charAt {S : ASh} {V : ASt} {x0 x1 : Int} {r : Int} {V' : ASt} (h : f_Lat_charAt S V x0 x1 = some (r, V')) : ACt m_Lat_charAt 4 0 0 [(aR x0), (aI x1)] S V (some (aI r)) S V' := by
  unfold f_Lat_charAt at h
  refine ACt_of (by decide +kernel) rfl (Nat.le_of_ble_eq_true rfl) ?_
  show AWk m_Lat_charAt 4 0 0 0 0 0 [some (aR x0), some (aI x1)] [] S V (some (aI r)) S V'
  refine Ak_iload_n 1 1 (d_Lat_charAt 0 0 (.iload_n 1) 1 rfl) rfl rfl rfl ?_
  refine Ak_aload_n 2 0 (d_Lat_charAt 1 1 (.aload_n 0) 1 rfl) rfl rfl rfl ?_
  obtain ⟨hs1, h⟩ := gd_some h
  refine Ak_blen 3 hs1 (d_Lat_charAt 2 2 (.arraylength) 1 rfl) rfl ?_
  obtain ⟨r2, V3, h4, h⟩ := bnd_some h
  refine Ak_cS0 6 3 (c_Str_checkIndex h4) rfl mok_Str_checkIndex lkM_Lat_9 (d_Lat_charAt 3 3 (.invokestatic 9) 3 rfl) rfl (by decide) (Nat.le_of_ble_eq_true rfl) ?_
  refine Ak_aload_n 7 0 (d_Lat_charAt 4 6 (.aload_n 0) 1 rfl) rfl rfl rfl ?_
  refine Ak_iload_n 8 1 (d_Lat_charAt 5 7 (.iload_n 1) 1 rfl) rfl rfl rfl ?_
  obtain ⟨hs5, h⟩ := gd_some h
  refine Ak_bald 9 hs5 (d_Lat_charAt 6 8 (.baload) 1 rfl) rfl ?_
  refine Ak_sipush 12 (d_Lat_charAt 7 9 (.sipush 255) 3 rfl) rfl (sp_ok rfl) (rk rfl) ?_
  refine Ak_iand 13 (d_Lat_charAt 8 12 (.iand) 1 rfl) rfl ?_
  refine Ak_i2c 14 (d_Lat_charAt 9 13 (.i2c) 1 rfl) rfl ?_
  obtain ⟨hb6, h⟩ := gd_some h
  cases h
  exact Ak_cret hb6 rfl (d_Lat_charAt 10 14 (.ireturn) 1 rfl)
theorem c_Str_charAt {S : ASh} {V : ASt} {x0 x1 : Int} {r : Int} {V' : ASt} (h : f_Str_charAt S V x0 x1 = some (r, V')) : ACt m_Str_charAt 5 0 0 [(aR x0), (aI x1)] S V (some (aI r)) S V' := by
  unfold f_Str_charAt at h
  obtain ⟨hO, h⟩ := gd_some h
  refine ACt_of (by decide +kernel) rfl (Nat.le_of_ble_eq_true rfl) ?_
  show AWk m_Str_charAt 5 0 0 0 0 0 [some (aR x0), some (aI x1)] [] S V (some (aI r)) S V'
  refine Ak_aload_n 1 0 (d_Str_charAt 0 0 (.aload_n 0) 1 rfl) rfl rfl rfl ?_
  obtain ⟨r1, V2, h3, h⟩ := bnd_some h
  refine Ak_cT 4 2 (c_Str_isLatin1 h3) rfl hO rfl mok_Str_isLatin1 lkM_Str_492 (d_Str_charAt 1 1 (.invokevirtual 492) 3 rfl) rfl (by decide) (by decide) (Nat.le_of_ble_eq_true rfl) ?_
  refine Ak_if_eq 16 7 (d_Str_charAt 2 4 (.ifCond .eq 12) 3 rfl) rfl rfl (fun hc => ?_) (fun hc => ?_)
  · replace h := it_t hc h
    cases h
  · replace h := it_f hc h
    refine Ak_aload_n 8 0 (d_Str_charAt 3 7 (.aload_n 0) 1 rfl) rfl rfl rfl ?_
    refine Ak_sval 11 hO lkF_Str_9 (d_Str_charAt 4 8 (.getfield 9) 3 rfl) rfl ?_
    refine Ak_iload_n 12 1 (d_Str_charAt 5 11 (.iload_n 1) 1 rfl) rfl rfl rfl ?_
    obtain ⟨r4, V5, h6, h⟩ := bnd_some h
    refine Ak_cS1 15 4 (c_Lat_charAt h6) rfl mok_Lat_charAt lkM_Str_495 (d_Str_charAt 6 12 (.invokestatic 495) 3 rfl) rfl (by decide) (Nat.le_of_ble_eq_true rfl) ?_
    obtain ⟨hb7, h⟩ := gd_some h
    cases h
    exact Ak_cret hb7 rfl (d_Str_charAt 7 15 (.ireturn) 1 rfl)
theorem c_Reader_type {S : ASh} {V : ASt} {x0 : Int} {r : Int} {V' : ASt} (h : f_Reader_type S V x0 = some (r, V')) : ACt m_Reader_type 2 0 0 [(aR x0)] S V (some (aI r)) S V' := by
  unfold f_Reader_type at h
  obtain ⟨hO, h⟩ := gd_some h
  refine ACt_of (plainFor_of_name rfl) rfl (Nat.le_of_ble_eq_true rfl) ?_
  show AWk m_Reader_type 2 0 0 0 0 0 [some (aR x0)] [] S V (some (aI r)) S V'
  refine Ak_aload_n 1 0 (d_Reader_type 0 0 (.aload_n 0) 1 rfl) rfl rfl rfl ?_
  refine Ak_getI 4 3 hO clX5 (by decide) (Or.inl rfl) lkF_Reader_25 (d_Reader_type 1 1 (.getfield 25) 3 rfl) rfl ?_
  refine Ak_if_lt 36 7 (d_Reader_type 2 4 (.ifCond .lt 32) 3 rfl) rfl rfl (fun hc => ?_) (fun hc => ?_)
  · replace h := it_t hc h
    refine Ak_iconst 37 (d_Reader_type 16 36 (.iconst 1) 1 rfl) rfl (rk rfl) ?_
    cases h
    exact Ak_iret rfl (d_Reader_type 17 37 (.ireturn) 1 rfl)
  · replace h := it_f hc h
    refine Ak_aload_n 8 0 (d_Reader_type 3 7 (.aload_n 0) 1 rfl) rfl rfl rfl ?_
    refine Ak_getI 11 3 hO clX5 (by decide) (Or.inl rfl) lkF_Reader_25 (d_Reader_type 4 8 (.getfield 25) 3 rfl) rfl ?_
    refine Ak_aload_n 12 0 (d_Reader_type 5 11 (.aload_n 0) 1 rfl) rfl rfl rfl ?_
    refine Ak_getF 15 2 hO clX5 (by decide) rfl lkF_Reader_21 (d_Reader_type 6 12 (.getfield 21) 3 rfl) rfl ?_
    obtain ⟨hg1, h⟩ := gd_some h
    refine Ak_getI 18 4 hg1 clX9 (by decide) (Or.inl rfl) lkF_Reader_58 (d_Reader_type 7 15 (.getfield 58) 3 rfl) rfl ?_
    refine Ak_icmp_ge 36 21 (d_Reader_type 8 18 (.if_icmp .ge 18) 3 rfl) rfl rfl (fun hc => ?_) (fun hc => ?_)
    · replace h := it_t hc h
      refine Ak_iconst 37 (d_Reader_type 16 36 (.iconst 1) 1 rfl) rfl (rk rfl) ?_
      cases h
      exact Ak_iret rfl (d_Reader_type 17 37 (.ireturn) 1 rfl)
    · replace h := it_f hc h
      refine Ak_aload_n 22 0 (d_Reader_type 9 21 (.aload_n 0) 1 rfl) rfl rfl rfl ?_
      refine Ak_getF 25 2 hO clX5 (by decide) rfl lkF_Reader_21 (d_Reader_type 10 22 (.getfield 21) 3 rfl) rfl ?_
      refine Ak_getF 28 1 hg1 clX9 (by decide) rfl lkF_Reader_61 (d_Reader_type 11 25 (.getfield 61) 3 rfl) rfl ?_
      refine Ak_aload_n 29 0 (d_Reader_type 12 28 (.aload_n 0) 1 rfl) rfl rfl rfl ?_
      refine Ak_getI 32 3 hO clX5 (by decide) (Or.inl rfl) lkF_Reader_25 (d_Reader_type 13 29 (.getfield 25) 3 rfl) rfl ?_
      obtain ⟨ha2, h⟩ := gd_some h
      refine Ak_iaload 33 ha2 (d_Reader_type 14 32 (.iaload) 1 rfl) rfl ?_
      refine Ak_goto 37 (d_Reader_type 15 33 (.goto 4) 3 rfl) rfl ?_
      cases h
      exact Ak_iret rfl (d_Reader_type 17 37 (.ireturn) 1 rfl)
theorem c_Reader_content {S : ASh} {V : ASt} {x0 : Int} {r : Int} {V' : ASt} (h : f_Reader_content S V x0 = some (r, V')) : ACt m_Reader_content 2 0 0 [(aR x0)] S V (some (aI r)) S V' := by
  unfold f_Reader_content at h
  obtain ⟨hO, h⟩ := gd_some h
  refine ACt_of (plainFor_of_name rfl) rfl (Nat.le_of_ble_eq_true rfl) ?_
  show AWk m_Reader_content 2 0 0 0 0 0 [some (aR x0)] [] S V (some (aI r)) S V'
  refine Ak_aload_n 1 0 (d_Reader_content 0 0 (.aload_n 0) 1 rfl) rfl rfl rfl ?_
  refine Ak_getI 4 3 hO clX5 (by decide) (Or.inl rfl) lkF_Reader_25 (d_Reader_content 1 1 (.getfield 25) 3 rfl) rfl ?_
  refine Ak_if_lt 36 7 (d_Reader_content 2 4 (.ifCond .lt 32) 3 rfl) rfl rfl (fun hc => ?_) (fun hc => ?_)
  · replace h := it_t hc h
    refine Ak_iconst 37 (d_Reader_content 16 36 (.iconst 0) 1 rfl) rfl (rk rfl) ?_
    cases h
    exact Ak_iret rfl (d_Reader_content 17 37 (.ireturn) 1 rfl)
  · replace h := it_f hc h
    refine Ak_aload_n 8 0 (d_Reader_content 3 7 (.aload_n 0) 1 rfl) rfl rfl rfl ?_
    refine Ak_getI 11 3 hO clX5 (by decide) (Or.inl rfl) lkF_Reader_25 (d_Reader_content 4 8 (.getfield 25) 3 rfl) rfl ?_
    refine Ak_aload_n 12 0 (d_Reader_content 5 11 (.aload_n 0) 1 rfl) rfl rfl rfl ?_
    refine Ak_getF 15 2 hO clX5 (by decide) rfl lkF_Reader_21 (d_Reader_content 6 12 (.getfield 21) 3 rfl) rfl ?_
    obtain ⟨hg1, h⟩ := gd_some h
    refine Ak_getI 18 4 hg1 clX9 (by decide) (Or.inl rfl) lkF_Reader_58 (d_Reader_content 7 15 (.getfield 58) 3 rfl) rfl ?_
    refine Ak_icmp_ge 36 21 (d_Reader_content 8 18 (.if_icmp .ge 18) 3 rfl) rfl rfl (fun hc => ?_) (fun hc => ?_)
    · replace h := it_t hc h
      refine Ak_iconst 37 (d_Reader_content 16 36 (.iconst 0) 1 rfl) rfl (rk rfl) ?_
      cases h
      exact Ak_iret rfl (d_Reader_content 17 37 (.ireturn) 1 rfl)
    · replace h := it_f hc h
      refine Ak_aload_n 22 0 (d_Reader_content 9 21 (.aload_n 0) 1 rfl) rfl rfl rfl ?_
      refine Ak_getF 25 2 hO clX5 (by decide) rfl lkF_Reader_21 (d_Reader_content 10 22 (.getfield 21) 3 rfl) rfl ?_
      refine Ak_getF 28 3 hg1 clX9 (by decide) rfl lkF_Reader_65 (d_Reader_content 11 25 (.getfield 65) 3 rfl) rfl ?_
      refine Ak_aload_n 29 0 (d_Reader_content 12 28 (.aload_n 0) 1 rfl) rfl rfl rfl ?_
      refine Ak_getI 32 3 hO clX5 (by decide) (Or.inl rfl) lkF_Reader_25 (d_Reader_content 13 29 (.getfield 25) 3 rfl) rfl ?_
      obtain ⟨ha2, h⟩ := gd_some h
      refine Ak_iaload 33 ha2 (d_Reader_content 14 32 (.iaload) 1 rfl) rfl ?_
      refine Ak_goto 37 (d_Reader_content 15 33 (.goto 4) 3 rfl) rfl ?_
      cases h
      exact Ak_iret rfl (d_Reader_content 17 37 (.ireturn) 1 rfl)
theorem c_Reader_step {S : ASh} {V : ASt} {x0 : Int} {r : Int} {V' : ASt} (h : f_Reader_step S V x0 = some (r, V')) : ACt m_Reader_step 2 0 0 [(aR x0)] S V none S V' := by
  unfold f_Reader_step at h
  obtain ⟨hO, h⟩ := gd_some h
  refine ACt_of (plainFor_of_name rfl) rfl (Nat.le_of_ble_eq_true rfl) ?_
  show AWk m_Reader_step 2 0 0 0 0 0 [some (aR x0)] [] S V none S V'
  refine Ak_aload_n 1 0 (d_Reader_step 0 0 (.aload_n 0) 1 rfl) rfl rfl rfl ?_
  refine Ak_getI 4 3 hO clX5 (by decide) (Or.inl rfl) lkF_Reader_25 (d_Reader_step 1 1 (.getfield 25) 3 rfl) rfl ?_
  refine Ak_iconst 5 (d_Reader_step 2 4 (.iconst 1) 1 rfl) rfl (rk rfl) ?_
  refine Ak_iadd 6 (d_Reader_step 3 5 (.iadd) 1 rfl) rfl ?_
  refine Ak_aload_n 7 0 (d_Reader_step 4 6 (.aload_n 0) 1 rfl) rfl rfl rfl ?_
  refine Ak_getF 10 2 hO clX5 (by decide) rfl lkF_Reader_21 (d_Reader_step 5 7 (.getfield 21) 3 rfl) rfl ?_
  obtain ⟨hg1, h⟩ := gd_some h
  refine Ak_getI 13 4 hg1 clX9 (by decide) (Or.inl rfl) lkF_Reader_58 (d_Reader_step 6 10 (.getfield 58) 3 rfl) rfl ?_
  refine Ak_icmp_ge 26 16 (d_Reader_step 7 13 (.if_icmp .ge 13) 3 rfl) rfl rfl (fun hc => ?_) (fun hc => ?_)
  · replace h := it_t hc h
    cases h
    exact Ak_vret rfl (d_Reader_step 14 26 (.return_) 1 rfl)
  · replace h := it_f hc h
    refine Ak_aload_n 17 0 (d_Reader_step 8 16 (.aload_n 0) 1 rfl) rfl rfl rfl ?_
    refine Ak_dup 18 (d_Reader_step 9 17 (.dup) 1 rfl) rfl rfl ?_
    refine Ak_getI 21 3 hO clX5 (by decide) (Or.inl rfl) lkF_Reader_25 (d_Reader_step 10 18 (.getfield 25) 3 rfl) rfl ?_
    refine Ak_iconst 22 (d_Reader_step 11 21 (.iconst 1) 1 rfl) rfl (rk rfl) ?_
    refine Ak_iadd 23 (d_Reader_step 12 22 (.iadd) 1 rfl) rfl ?_
    refine Ak_putI 26 3 hO clX5 (by decide) rfl rfl rfl lkF_Reader_25 (d_Reader_step 13 23 (.putfield 25) 3 rfl) rfl (fun V2 hV2 => ?_)
    replace h := wV_some h V2 hV2
    cases h
    exact Ak_vret rfl (d_Reader_step 14 26 (.return_) 1 rfl)
theorem t_Reader_fail_J53 {S : ASh} {V : ASt} {x0 : Int} {r : Int} {V' : ASt} (hO : isO S x0 5 = true) (h : b_Reader_fail_J53 S  V x0 = some (r, V')) : AWk m_Reader_fail 2 0 0 0 0 53 [some (aR x0)] [] S V none S V' := by
  unfold b_Reader_fail_J53 at h
  refine Ak_aload_n 54 0 (d_Reader_fail 25 53 (.aload_n 0) 1 rfl) rfl rfl rfl ?_
  refine Ak_aload_n 55 0 (d_Reader_fail 26 54 (.aload_n 0) 1 rfl) rfl rfl rfl ?_
  refine Ak_getF 58 2 hO clX5 (by decide) rfl lkF_Reader_21 (d_Reader_fail 27 55 (.getfield 21) 3 rfl) rfl ?_
  obtain ⟨hg1, h⟩ := gd_some h
  refine Ak_getI 61 4 hg1 clX9 (by decide) (Or.inl rfl) lkF_Reader_58 (d_Reader_fail 28 58 (.getfield 58) 3 rfl) rfl ?_
  refine Ak_iconst 62 (d_Reader_fail 29 61 (.iconst 1) 1 rfl) rfl (rk rfl) ?_
  refine Ak_isub 63 (d_Reader_fail 30 62 (.isub) 1 rfl) rfl ?_
  refine Ak_putI 66 3 hO clX5 (by decide) rfl rfl rfl lkF_Reader_25 (d_Reader_fail 31 63 (.putfield 25) 3 rfl) rfl (fun V2 hV2 => ?_)
  replace h := wV_some h V2 hV2
  cases h
  exact Ak_vret rfl (d_Reader_fail 32 66 (.return_) 1 rfl)
theorem t_Reader_fail_J50 {S : ASh} {V : ASt} {x0 s0 s1 : Int} {r : Int} {V' : ASt} (hO : isO S x0 5 = true) (h : b_Reader_fail_J50 S  V x0 s0 s1 = some (r, V')) : AWk m_Reader_fail 2 0 0 0 0 50 [some (aR x0)] [(aI s1), (aR s0)] S V none S V' := by
  unfold b_Reader_fail_J50 at h
  obtain ⟨hg3, h⟩ := gd_some h
  refine Ak_putI 53 1 hg3 clX5 (by decide) rfl rfl rfl lkF_Reader_15 (d_Reader_fail 24 50 (.putfield 15) 3 rfl) rfl (fun V4 hV4 => ?_)
  replace h := wV_some h V4 hV4
  refine Ak_keep [true] ?_
  exact t_Reader_fail_J53 hO h
theorem c_Reader_fail {S : ASh} {V : ASt} {x0 x1 : Int} {r : Int} {V' : ASt} (h : f_Reader_fail S V x0 x1 = some (r, V')) : ACt m_Reader_fail 2 0 0 [(aR x0), (aI x1)] S V none S V' := by
  unfold f_Reader_fail at h
  obtain ⟨hO, h⟩ := gd_some h
  refine ACt_of (plainFor_of_name rfl) rfl (Nat.le_of_ble_eq_true rfl) ?_
  show AWk m_Reader_fail 2 0 0 0 0 0 [some (aR x0), some (aI x1)] [] S V none S V'
  refine Ak_aload_n 1 0 (d_Reader_fail 0 0 (.aload_n 0) 1 rfl) rfl rfl rfl ?_
  refine Ak_getI 4 0 hO clX5 (by decide) (Or.inl rfl) lkF_Reader_9 (d_Reader_fail 1 1 (.getfield 9) 3 rfl) rfl ?_
  refine Ak_if_ne 53 7 (d_Reader_fail 2 4 (.ifCond .ne 49) 3 rfl) rfl rfl (fun hc => ?_) (fun hc => ?_)
  · replace h := it_f hc h
    refine Ak_keep [true] ?_
    exact t_Reader_fail_J53 hO h
  · replace h := it_t hc h
    refine Ak_aload_n 8 0 (d_Reader_fail 3 7 (.aload_n 0) 1 rfl) rfl rfl rfl ?_
    refine Ak_iload_n 9 1 (d_Reader_fail 4 8 (.iload_n 1) 1 rfl) rfl rfl rfl ?_
    refine Ak_putI 12 0 hO clX5 (by decide) rfl rfl rfl lkF_Reader_9 (d_Reader_fail 5 9 (.putfield 9) 3 rfl) rfl (fun V5 hV5 => ?_)
    replace h := wV_some h V5 hV5
    refine Ak_aload_n 13 0 (d_Reader_fail 6 12 (.aload_n 0) 1 rfl) rfl rfl rfl ?_
    refine Ak_aload_n 14 0 (d_Reader_fail 7 13 (.aload_n 0) 1 rfl) rfl rfl rfl ?_
    refine Ak_getI 17 3 hO clX5 (by decide) (Or.inl rfl) lkF_Reader_25 (d_Reader_fail 8 14 (.getfield 25) 3 rfl) rfl ?_
    refine Ak_if_lt 49 20 (d_Reader_fail 9 17 (.ifCond .lt 32) 3 rfl) rfl rfl (fun hc => ?_) (fun hc => ?_)
    · replace h := it_t hc h
      refine Ak_iconst 50 (d_Reader_fail 23 49 (.iconst (-1)) 1 rfl) rfl (rk rfl) ?_
      refine Ak_keep [true] ?_
      exact t_Reader_fail_J50 hO h
    · replace h := it_f hc h
      refine Ak_aload_n 21 0 (d_Reader_fail 10 20 (.aload_n 0) 1 rfl) rfl rfl rfl ?_
      refine Ak_getI 24 3 hO clX5 (by decide) (Or.inl rfl) lkF_Reader_25 (d_Reader_fail 11 21 (.getfield 25) 3 rfl) rfl ?_
      refine Ak_aload_n 25 0 (d_Reader_fail 12 24 (.aload_n 0) 1 rfl) rfl rfl rfl ?_
      refine Ak_getF 28 2 hO clX5 (by decide) rfl lkF_Reader_21 (d_Reader_fail 13 25 (.getfield 21) 3 rfl) rfl ?_
      obtain ⟨hg6, h⟩ := gd_some h
      refine Ak_getI 31 4 hg6 clX9 (by decide) (Or.inl rfl) lkF_Reader_58 (d_Reader_fail 14 28 (.getfield 58) 3 rfl) rfl ?_
      refine Ak_icmp_ge 49 34 (d_Reader_fail 15 31 (.if_icmp .ge 18) 3 rfl) rfl rfl (fun hc => ?_) (fun hc => ?_)
      · replace h := it_t hc h
        refine Ak_iconst 50 (d_Reader_fail 23 49 (.iconst (-1)) 1 rfl) rfl (rk rfl) ?_
        refine Ak_keep [true] ?_
        exact t_Reader_fail_J50 hO h
      · replace h := it_f hc h
        refine Ak_aload_n 35 0 (d_Reader_fail 16 34 (.aload_n 0) 1 rfl) rfl rfl rfl ?_
        refine Ak_getF 38 2 hO clX5 (by decide) rfl lkF_Reader_21 (d_Reader_fail 17 35 (.getfield 21) 3 rfl) rfl ?_
        refine Ak_getF 41 2 hg6 clX9 (by decide) rfl lkF_Reader_68 (d_Reader_fail 18 38 (.getfield 68) 3 rfl) rfl ?_
        refine Ak_aload_n 42 0 (d_Reader_fail 19 41 (.aload_n 0) 1 rfl) rfl rfl rfl ?_
        refine Ak_getI 45 3 hO clX5 (by decide) (Or.inl rfl) lkF_Reader_25 (d_Reader_fail 20 42 (.getfield 25) 3 rfl) rfl ?_
        obtain ⟨ha7, h⟩ := gd_some h
        refine Ak_iaload 46 ha7 (d_Reader_fail 21 45 (.iaload) 1 rfl) rfl ?_
        refine Ak_goto 50 (d_Reader_fail 22 46 (.goto 4) 3 rfl) rfl ?_
        refine Ak_keep [true] ?_
        exact t_Reader_fail_J50 hO h
theorem c_Reader_take {S : ASh} {V : ASt} {x0 x1 : Int} {r : Int} {V' : ASt} (h : f_Reader_take S V x0 x1 = some (r, V')) : ACt m_Reader_take 3 0 0 [(aR x0), (aI x1)] S V none S V' := by
  unfold f_Reader_take at h
  obtain ⟨hO, h⟩ := gd_some h
  refine ACt_of (plainFor_of_name rfl) rfl (Nat.le_of_ble_eq_true rfl) ?_
  show AWk m_Reader_take 3 0 0 0 0 0 [some (aR x0), some (aI x1)] [] S V none S V'
  refine Ak_aload_n 1 0 (d_Reader_take 0 0 (.aload_n 0) 1 rfl) rfl rfl rfl ?_
  obtain ⟨r1, V2, h3, h⟩ := bnd_some h
  refine Ak_cV1 4 2 (c_Reader_type h3) rfl hO clX5 rfl mok_Reader_type lkM_Reader_51 (d_Reader_take 1 1 (.invokevirtual 51) 3 rfl) rfl (by decide) (Nat.le_of_ble_eq_true rfl) ?_
  refine Ak_iload_n 5 1 (d_Reader_take 2 4 (.iload_n 1) 1 rfl) rfl rfl rfl ?_
  refine Ak_icmp_ne 15 8 (d_Reader_take 3 5 (.if_icmp .ne 10) 3 rfl) rfl rfl (fun hc => ?_) (fun hc => ?_)
  · replace h := it_f hc h
    refine Ak_aload_n 16 0 (d_Reader_take 7 15 (.aload_n 0) 1 rfl) rfl rfl rfl ?_
    refine Ak_iconst 17 (d_Reader_take 8 16 (.iconst 1) 1 rfl) rfl (rk rfl) ?_
    obtain ⟨r4, V5, h6, h⟩ := bnd_some h
    refine Ak_cV0 20 2 (c_Reader_fail h6) rfl hO clX5 rfl mok_Reader_fail lkM_Reader_74 (d_Reader_take 9 17 (.invokevirtual 74) 3 rfl) rfl (by decide) (Nat.le_of_ble_eq_true rfl) ?_
    cases h
    exact Ak_vret rfl (d_Reader_take 10 20 (.return_) 1 rfl)
  · replace h := it_t hc h
    refine Ak_aload_n 9 0 (d_Reader_take 4 8 (.aload_n 0) 1 rfl) rfl rfl rfl ?_
    obtain ⟨r7, V8, h9, h⟩ := bnd_some h
    refine Ak_cV0 12 2 (c_Reader_step h9) rfl hO clX5 rfl mok_Reader_step lkM_Reader_71 (d_Reader_take 5 9 (.invokevirtual 71) 3 rfl) rfl (by decide) (Nat.le_of_ble_eq_true rfl) ?_
    refine Ak_goto 20 (d_Reader_take 6 12 (.goto 8) 3 rfl) rfl ?_
    cases h
    exact Ak_vret rfl (d_Reader_take 10 20 (.return_) 1 rfl)
theorem c_Reader_takeNameOfPiece {S : ASh} {V : ASt} {x0 : Int} {r : Int} {V' : ASt} (h : f_Reader_takeNameOfPiece S V x0 = some (r, V')) : ACt m_Reader_takeNameOfPiece 3 0 0 [(aR x0)] S V (some (aI r)) S V' := by
  unfold f_Reader_takeNameOfPiece at h
  obtain ⟨hO, h⟩ := gd_some h
  refine ACt_of (plainFor_of_name rfl) rfl (Nat.le_of_ble_eq_true rfl) ?_
  show AWk m_Reader_takeNameOfPiece 3 0 0 0 0 0 [some (aR x0)] [] S V (some (aI r)) S V'
  refine Ak_aload_n 1 0 (d_Reader_takeNameOfPiece 0 0 (.aload_n 0) 1 rfl) rfl rfl rfl ?_
  refine Ak_getR 4 4 hO clX5 (by decide) rfl lkF_Reader_31 (d_Reader_takeNameOfPiece 1 1 (.getfield 31) 3 rfl) rfl ?_
  refine Ak_aload_n 5 0 (d_Reader_takeNameOfPiece 2 4 (.aload_n 0) 1 rfl) rfl rfl rfl ?_
  obtain ⟨r1, V2, h3, h⟩ := bnd_some h
  refine Ak_cV1 8 2 (c_Reader_content h3) rfl hO clX5 rfl mok_Reader_content lkM_Reader_77 (d_Reader_takeNameOfPiece 3 5 (.invokevirtual 77) 3 rfl) rfl (by decide) (Nat.le_of_ble_eq_true rfl) ?_
  obtain ⟨hg7, h⟩ := gd_some h
  obtain ⟨r4, V5, h6, h⟩ := bnd_some h
  refine Ak_cV1 11 2 (c_Game_pieceNamed h6) rfl hg7 clX1 rfl mok_Game_pieceNamed lkM_Reader_102 (d_Reader_takeNameOfPiece 4 8 (.invokevirtual 102) 3 rfl) rfl (by decide) (Nat.le_of_ble_eq_true rfl) ?_
  refine Ak_istore_n 12 1 (d_Reader_takeNameOfPiece 5 11 (.istore_n 1) 1 rfl) rfl rfl (by decide) ?_
  refine Ak_aload_n 13 0 (d_Reader_takeNameOfPiece 6 12 (.aload_n 0) 1 rfl) rfl rfl rfl ?_
  obtain ⟨r8, V9, h10, h⟩ := bnd_some h
  refine Ak_cV1 16 2 (c_Reader_type h10) rfl hO clX5 rfl mok_Reader_type lkM_Reader_51 (d_Reader_takeNameOfPiece 7 13 (.invokevirtual 51) 3 rfl) rfl (by decide) (Nat.le_of_ble_eq_true rfl) ?_
  refine Ak_iconst 17 (d_Reader_takeNameOfPiece 8 16 (.iconst 2) 1 rfl) rfl (rk rfl) ?_
  refine Ak_icmp_eq 28 20 (d_Reader_takeNameOfPiece 9 17 (.if_icmp .eq 11) 3 rfl) rfl rfl (fun hc => ?_) (fun hc => ?_)
  · replace h := it_t hc h
    refine Ak_iload_n 29 1 (d_Reader_takeNameOfPiece 14 28 (.iload_n 1) 1 rfl) rfl rfl rfl ?_
    refine Ak_iconst 30 (d_Reader_takeNameOfPiece 15 29 (.iconst (-1)) 1 rfl) rfl (rk rfl) ?_
    refine Ak_icmp_ne 41 33 (d_Reader_takeNameOfPiece 16 30 (.if_icmp .ne 11) 3 rfl) rfl rfl (fun hc => ?_) (fun hc => ?_)
    · replace h := it_f hc h
      refine Ak_aload_n 42 0 (d_Reader_takeNameOfPiece 21 41 (.aload_n 0) 1 rfl) rfl rfl rfl ?_
      obtain ⟨r11, V12, h13, h⟩ := bnd_some h
      refine Ak_cV0 45 2 (c_Reader_step h13) rfl hO clX5 rfl mok_Reader_step lkM_Reader_71 (d_Reader_takeNameOfPiece 22 42 (.invokevirtual 71) 3 rfl) rfl (by decide) (Nat.le_of_ble_eq_true rfl) ?_
      refine Ak_iload_n 46 1 (d_Reader_takeNameOfPiece 23 45 (.iload_n 1) 1 rfl) rfl rfl rfl ?_
      cases h
      exact Ak_iret rfl (d_Reader_takeNameOfPiece 24 46 (.ireturn) 1 rfl)
    · replace h := it_t hc h
      refine Ak_aload_n 34 0 (d_Reader_takeNameOfPiece 17 33 (.aload_n 0) 1 rfl) rfl rfl rfl ?_
      refine Ak_iconst 35 (d_Reader_takeNameOfPiece 18 34 (.iconst 3) 1 rfl) rfl (rk rfl) ?_
      obtain ⟨r14, V15, h16, h⟩ := bnd_some h
      refine Ak_cV0 38 2 (c_Reader_fail h16) rfl hO clX5 rfl mok_Reader_fail lkM_Reader_74 (d_Reader_takeNameOfPiece 19 35 (.invokevirtual 74) 3 rfl) rfl (by decide) (Nat.le_of_ble_eq_true rfl) ?_
      refine Ak_goto 45 (d_Reader_takeNameOfPiece 20 38 (.goto 7) 3 rfl) rfl ?_
      refine Ak_iload_n 46 1 (d_Reader_takeNameOfPiece 23 45 (.iload_n 1) 1 rfl) rfl rfl rfl ?_
      cases h
      exact Ak_iret rfl (d_Reader_takeNameOfPiece 24 46 (.ireturn) 1 rfl)
  · replace h := it_f hc h
    refine Ak_aload_n 21 0 (d_Reader_takeNameOfPiece 10 20 (.aload_n 0) 1 rfl) rfl rfl rfl ?_
    refine Ak_iconst 22 (d_Reader_takeNameOfPiece 11 21 (.iconst 1) 1 rfl) rfl (rk rfl) ?_
    obtain ⟨r17, V18, h19, h⟩ := bnd_some h
    refine Ak_cV0 25 2 (c_Reader_fail h19) rfl hO clX5 rfl mok_Reader_fail lkM_Reader_74 (d_Reader_takeNameOfPiece 12 22 (.invokevirtual 74) 3 rfl) rfl (by decide) (Nat.le_of_ble_eq_true rfl) ?_
    refine Ak_goto 45 (d_Reader_takeNameOfPiece 13 25 (.goto 20) 3 rfl) rfl ?_
    refine Ak_iload_n 46 1 (d_Reader_takeNameOfPiece 23 45 (.iload_n 1) 1 rfl) rfl rfl rfl ?_
    cases h
    exact Ak_iret rfl (d_Reader_takeNameOfPiece 24 46 (.ireturn) 1 rfl)
theorem t_Reader_openBracket_J37 {S : ASh} {V : ASt} {x0 : Int} {r : Int} {V' : ASt} (hO : isO S x0 5 = true) (h : b_Reader_openBracket_J37 S  V x0 = some (r, V')) : AWk m_Reader_openBracket 3 0 0 0 0 37 [some (aR x0)] [] S V none S V' := by
  unfold b_Reader_openBracket_J37 at h
  refine Ak_aload_n 38 0 (d_Reader_openBracket 18 37 (.aload_n 0) 1 rfl) rfl rfl rfl ?_
  refine Ak_dup 39 (d_Reader_openBracket 19 38 (.dup) 1 rfl) rfl rfl ?_
  refine Ak_getI 42 5 hO clX5 (by decide) (Or.inl rfl) lkF_Reader_28 (d_Reader_openBracket 20 39 (.getfield 28) 3 rfl) rfl ?_
  refine Ak_iconst 43 (d_Reader_openBracket 21 42 (.iconst 1) 1 rfl) rfl (rk rfl) ?_
  refine Ak_iadd 44 (d_Reader_openBracket 22 43 (.iadd) 1 rfl) rfl ?_
  refine Ak_putI 47 5 hO clX5 (by decide) rfl rfl rfl lkF_Reader_28 (d_Reader_openBracket 23 44 (.putfield 28) 3 rfl) rfl (fun V1 hV1 => ?_)
  replace h := wV_some h V1 hV1
  cases h
  exact Ak_vret rfl (d_Reader_openBracket 24 47 (.return_) 1 rfl)
theorem c_Reader_openBracket {S : ASh} {V : ASt} {x0 x1 : Int} {r : Int} {V' : ASt} (h : f_Reader_openBracket S V x0 x1 = some (r, V')) : ACt m_Reader_openBracket 3 0 0 [(aR x0), (aI x1)] S V none S V' := by
  unfold f_Reader_openBracket at h
  obtain ⟨hO, h⟩ := gd_some h
  refine ACt_of (plainFor_of_name rfl) rfl (Nat.le_of_ble_eq_true rfl) ?_
  show AWk m_Reader_openBracket 3 0 0 0 0 0 [some (aR x0), some (aI x1)] [] S V none S V'
  refine Ak_aload_n 1 0 (d_Reader_openBracket 0 0 (.aload_n 0) 1 rfl) rfl rfl rfl ?_
  obtain ⟨r2, V3, h4, h⟩ := bnd_some h
  refine Ak_cV1 4 2 (c_Reader_type h4) rfl hO clX5 rfl mok_Reader_type lkM_Reader_51 (d_Reader_openBracket 1 1 (.invokevirtual 51) 3 rfl) rfl (by decide) (Nat.le_of_ble_eq_true rfl) ?_
  refine Ak_iload_n 5 1 (d_Reader_openBracket 2 4 (.iload_n 1) 1 rfl) rfl rfl rfl ?_
  refine Ak_icmp_eq 16 8 (d_Reader_openBracket 3 5 (.if_icmp .eq 11) 3 rfl) rfl rfl (fun hc => ?_) (fun hc => ?_)
  · replace h := it_t hc h
    refine Ak_aload_n 17 0 (d_Reader_openBracket 8 16 (.aload_n 0) 1 rfl) rfl rfl rfl ?_
    refine Ak_getI 20 5 hO clX5 (by decide) (Or.inl rfl) lkF_Reader_28 (d_Reader_openBracket 9 17 (.getfield 28) 3 rfl) rfl ?_
    refine Ak_bipush 22 (d_Reader_openBracket 10 20 (.bipush 8) 2 rfl) rfl (bp_ok rfl) (rk rfl) ?_
    refine Ak_icmp_lt 33 25 (d_Reader_openBracket 11 22 (.if_icmp .lt 11) 3 rfl) rfl rfl (fun hc => ?_) (fun hc => ?_)
    · replace h := it_t hc h
      refine Ak_aload_n 34 0 (d_Reader_openBracket 16 33 (.aload_n 0) 1 rfl) rfl rfl rfl ?_
      obtain ⟨r5, V6, h7, h⟩ := bnd_some h
      refine Ak_cV0 37 2 (c_Reader_step h7) rfl hO clX5 rfl mok_Reader_step lkM_Reader_71 (d_Reader_openBracket 17 34 (.invokevirtual 71) 3 rfl) rfl (by decide) (Nat.le_of_ble_eq_true rfl) ?_
      refine Ak_keep [true] ?_
      exact t_Reader_openBracket_J37 hO h
    · replace h := it_f hc h
      refine Ak_aload_n 26 0 (d_Reader_openBracket 12 25 (.aload_n 0) 1 rfl) rfl rfl rfl ?_
      refine Ak_iconst 27 (d_Reader_openBracket 13 26 (.iconst 5) 1 rfl) rfl (rk rfl) ?_
      obtain ⟨r8, V9, h10, h⟩ := bnd_some h
      refine Ak_cV0 30 2 (c_Reader_fail h10) rfl hO clX5 rfl mok_Reader_fail lkM_Reader_74 (d_Reader_openBracket 14 27 (.invokevirtual 74) 3 rfl) rfl (by decide) (Nat.le_of_ble_eq_true rfl) ?_
      refine Ak_goto 37 (d_Reader_openBracket 15 30 (.goto 7) 3 rfl) rfl ?_
      refine Ak_keep [true] ?_
      exact t_Reader_openBracket_J37 hO h
  · replace h := it_f hc h
    refine Ak_aload_n 9 0 (d_Reader_openBracket 4 8 (.aload_n 0) 1 rfl) rfl rfl rfl ?_
    refine Ak_iconst 10 (d_Reader_openBracket 5 9 (.iconst 1) 1 rfl) rfl (rk rfl) ?_
    obtain ⟨r11, V12, h13, h⟩ := bnd_some h
    refine Ak_cV0 13 2 (c_Reader_fail h13) rfl hO clX5 rfl mok_Reader_fail lkM_Reader_74 (d_Reader_openBracket 6 10 (.invokevirtual 74) 3 rfl) rfl (by decide) (Nat.le_of_ble_eq_true rfl) ?_
    refine Ak_goto 37 (d_Reader_openBracket 7 13 (.goto 24) 3 rfl) rfl ?_
    refine Ak_keep [true] ?_
    exact t_Reader_openBracket_J37 hO h
theorem c_Reader_comparisonTold {S : ASh} {V : ASt} {x0 : Int} {r : Int} {V' : ASt} (h : f_Reader_comparisonTold S V x0 = some (r, V')) : ACt m_Reader_comparisonTold 3 0 0 [(aR x0)] S V (some (aI r)) S V' := by
  unfold f_Reader_comparisonTold at h
  obtain ⟨hO, h⟩ := gd_some h
  refine ACt_of (plainFor_of_name rfl) rfl (Nat.le_of_ble_eq_true rfl) ?_
  show AWk m_Reader_comparisonTold 3 0 0 0 0 0 [some (aR x0)] [] S V (some (aI r)) S V'
  refine Ak_aload_n 1 0 (d_Reader_comparisonTold 0 0 (.aload_n 0) 1 rfl) rfl rfl rfl ?_
  obtain ⟨r1, V2, h3, h⟩ := bnd_some h
  refine Ak_cV1 4 2 (c_Reader_type h3) rfl hO clX5 rfl mok_Reader_type lkM_Reader_51 (d_Reader_comparisonTold 1 1 (.invokevirtual 51) 3 rfl) rfl (by decide) (Nat.le_of_ble_eq_true rfl) ?_
  by_cases hc4 : r1 = 60
  · replace h := it_t hc4 h
    refine Ak_tableIn 32 60 hc4 (d_Reader_comparisonTold 2 4 (.tableswitch 37 60 62 #[28, 34, 31]) 28 rfl) (by decide) (by decide) rfl rfl ?_
    refine Ak_bipush 34 (d_Reader_comparisonTold 3 32 (.bipush (-9)) 2 rfl) rfl (bp_ok rfl) (rk rfl) ?_
    cases h
    exact Ak_iret rfl (d_Reader_comparisonTold 4 34 (.ireturn) 1 rfl)
  · replace h := it_f hc4 h
    by_cases hc5 : r1 = 61
    · replace h := it_t hc5 h
      refine Ak_tableIn 38 61 hc5 (d_Reader_comparisonTold 2 4 (.tableswitch 37 60 62 #[28, 34, 31]) 28 rfl) (by decide) (by decide) rfl rfl ?_
      refine Ak_bipush 40 (d_Reader_comparisonTold 7 38 (.bipush (-11)) 2 rfl) rfl (bp_ok rfl) (rk rfl) ?_
      cases h
      exact Ak_iret rfl (d_Reader_comparisonTold 8 40 (.ireturn) 1 rfl)
    · replace h := it_f hc5 h
      by_cases hc6 : r1 = 62
      · replace h := it_t hc6 h
        refine Ak_tableIn 35 62 hc6 (d_Reader_comparisonTold 2 4 (.tableswitch 37 60 62 #[28, 34, 31]) 28 rfl) (by decide) (by decide) rfl rfl ?_
        refine Ak_bipush 37 (d_Reader_comparisonTold 5 35 (.bipush (-10)) 2 rfl) rfl (bp_ok rfl) (rk rfl) ?_
        cases h
        exact Ak_iret rfl (d_Reader_comparisonTold 6 37 (.ireturn) 1 rfl)
      · replace h := it_f hc6 h
        refine Ak_tableOut 41 (by omega) (d_Reader_comparisonTold 2 4 (.tableswitch 37 60 62 #[28, 34, 31]) 28 rfl) rfl ?_
        refine Ak_iconst 42 (d_Reader_comparisonTold 9 41 (.iconst (-1)) 1 rfl) rfl (rk rfl) ?_
        cases h
        exact Ak_iret rfl (d_Reader_comparisonTold 10 42 (.ireturn) 1 rfl)
theorem c_Reader_factorTold {S : ASh} {V : ASt} {x0 : Int} {r : Int} {V' : ASt} (h : f_Reader_factorTold S V x0 = some (r, V')) : ACt m_Reader_factorTold 3 0 0 [(aR x0)] S V (some (aI r)) S V' := by
  unfold f_Reader_factorTold at h
  obtain ⟨hO, h⟩ := gd_some h
  refine ACt_of (plainFor_of_name rfl) rfl (Nat.le_of_ble_eq_true rfl) ?_
  show AWk m_Reader_factorTold 3 0 0 0 0 0 [some (aR x0)] [] S V (some (aI r)) S V'
  refine Ak_aload_n 1 0 (d_Reader_factorTold 0 0 (.aload_n 0) 1 rfl) rfl rfl rfl ?_
  obtain ⟨r1, V2, h3, h⟩ := bnd_some h
  refine Ak_cV1 4 2 (c_Reader_type h3) rfl hO clX5 rfl mok_Reader_type lkM_Reader_51 (d_Reader_factorTold 1 1 (.invokevirtual 51) 3 rfl) rfl (by decide) (Nat.le_of_ble_eq_true rfl) ?_
  by_cases hc4 : r1 = 37
  · replace h := it_t hc4 h
    refine Ak_lookup 46 (d_Reader_factorTold 2 4 (.lookupswitch 45 #[(37, 42), (42, 36), (47, 39)]) 36 rfl) rfl (by rw [hc4]) rfl ?_
    refine Ak_bipush 48 (d_Reader_factorTold 7 46 (.bipush (-6)) 2 rfl) rfl (bp_ok rfl) (rk rfl) ?_
    cases h
    exact Ak_iret rfl (d_Reader_factorTold 8 48 (.ireturn) 1 rfl)
  · replace h := it_f hc4 h
    by_cases hc5 : r1 = 42
    · replace h := it_t hc5 h
      refine Ak_lookup 40 (d_Reader_factorTold 2 4 (.lookupswitch 45 #[(37, 42), (42, 36), (47, 39)]) 36 rfl) rfl (by rw [hc5]) rfl ?_
      refine Ak_bipush 42 (d_Reader_factorTold 3 40 (.bipush (-4)) 2 rfl) rfl (bp_ok rfl) (rk rfl) ?_
      cases h
      exact Ak_iret rfl (d_Reader_factorTold 4 42 (.ireturn) 1 rfl)
    · replace h := it_f hc5 h
      by_cases hc6 : r1 = 47
      · replace h := it_t hc6 h
        refine Ak_lookup 43 (d_Reader_factorTold 2 4 (.lookupswitch 45 #[(37, 42), (42, 36), (47, 39)]) 36 rfl) rfl (by rw [hc6]) rfl ?_
        refine Ak_bipush 45 (d_Reader_factorTold 5 43 (.bipush (-5)) 2 rfl) rfl (bp_ok rfl) (rk rfl) ?_
        cases h
        exact Ak_iret rfl (d_Reader_factorTold 6 45 (.ireturn) 1 rfl)
      · replace h := it_f hc6 h
        refine Ak_lookup 49 (d_Reader_factorTold 2 4 (.lookupswitch 45 #[(37, 42), (42, 36), (47, 39)]) 36 rfl) rfl (by rw [Op.lookupswitch.offset_cons, if_neg (fun e => hc4 e.symm), Op.lookupswitch.offset_cons, if_neg (fun e => hc5 e.symm), Op.lookupswitch.offset_cons, if_neg (fun e => hc6 e.symm), Op.lookupswitch.offset_nil]) rfl ?_
        refine Ak_iconst 50 (d_Reader_factorTold 9 49 (.iconst (-1)) 1 rfl) rfl (rk rfl) ?_
        cases h
        exact Ak_iret rfl (d_Reader_factorTold 10 50 (.ireturn) 1 rfl)
